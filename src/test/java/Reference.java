import java.util.ArrayList;
import java.util.List;

/**
 * The document once more, as slow and as literal as can be: every position is a copy, every pair of
 * squares is asked whether it is a move. It shares nothing with the class that it judges.
 */
final class Reference {
    /** A position that is never changed once it is made. */
    static final class Place {
        final int[] at = new int[64];
        int side;
        int rights;
        int passant = -1;
        int clock;

        Place copy() {
            Place other = new Place();
            System.arraycopy(at, 0, other.at, 0, 64);
            other.side = side;
            other.rights = rights;
            other.passant = passant;
            other.clock = clock;
            return other;
        }
    }

    private Place board = new Place();
    private final List<Place> game = new ArrayList<>();
    private boolean on;
    private List<int[]> found;

    Reference() {
        standard();
    }

    private Place now() {
        return game.get(game.size() - 1);
    }

    void standard() {
        board = new Place();
        int[] row = {4, 2, 3, 5, 6, 3, 2, 4};
        for (int file = 0; file < 8; file++) {
            board.at[file] = row[file];
            board.at[file + 8] = 1;
            board.at[file + 48] = 9;
            board.at[file + 56] = row[file] + 8;
        }
        board.rights = 15;
        begin();
    }

    private void begin() {
        game.clear();
        game.add(board);
        on = true;
        found = null;
    }

    void clear() {
        on = false;
        game.clear();
        found = null;
        board = new Place();
    }

    boolean put(int square, int piece) {
        boolean known = piece == 0 || piece >= 1 && piece <= 6 || piece >= 9 && piece <= 14;
        if (on || square < 0 || square > 63 || !known) {
            return false;
        }
        board.at[square] = piece;
        return true;
    }

    int start(int side, int rights, int passant) {
        if (on || side < 0 || side > 1 || rights < 0 || rights > 15 || passant < -1 || passant > 63) {
            return -1;
        }
        int[] kings = new int[2];
        int[] men = new int[2];
        boolean pawns = false;
        for (int s = 0; s < 64; s++) {
            int piece = board.at[s];
            if (piece != 0) {
                men[piece / 8]++;
                kings[piece / 8] += piece % 8 == 6 ? 1 : 0;
                pawns |= piece % 8 == 1 && (s / 8 == 0 || s / 8 == 7);
            }
        }
        if (kings[0] != 1 || kings[1] != 1 || men[0] > 16 || men[1] > 16) {
            return -2;
        }
        if (pawns) {
            return -3;
        }
        if (inCheck(board, 1 - side)) {
            return -4;
        }
        int[] rook = {7, 0, 63, 56};
        for (int r = 0; r < 4; r++) {
            int colour = r < 2 ? 0 : 8;
            if ((rights >> r) % 2 == 1 && (board.at[r < 2 ? 4 : 60] != 6 + colour || board.at[rook[r]] != 4 + colour)) {
                return -5;
            }
        }
        if (passant != -1) {
            boolean fine = side == 0
                ? passant / 8 == 5 && board.at[passant] == 0 && board.at[passant + 8] == 0 && board.at[passant - 8] == 9
                : passant / 8 == 2 && board.at[passant] == 0 && board.at[passant - 8] == 0 && board.at[passant + 8] == 1;
            if (!fine) {
                return -6;
            }
        }
        board.side = side;
        board.rights = rights;
        board.passant = passant;
        board.clock = 0;
        begin();
        return 0;
    }

    int move(int from, int to, int promotion) {
        if (!on) {
            return -1;
        }
        if (verdict() != 0) {
            return -7;
        }
        for (int[] m : legalMoves()) {
            if (m[0] == from && m[1] == to && m[2] == promotion) {
                game.add(after(now(), m));
                found = null;
                return 0;
            }
        }
        return -1;
    }

    boolean back() {
        if (!on || game.size() == 1) {
            return false;
        }
        game.remove(game.size() - 1);
        found = null;
        return true;
    }

    int piece(int square) {
        return square < 0 || square > 63 ? -1 : on ? now().at[square] : board.at[square];
    }

    int side() {
        return on ? now().side : -1;
    }

    int rights() {
        return on ? now().rights : -1;
    }

    int passant() {
        return on ? now().passant : -1;
    }

    int moves() {
        return on ? legalMoves().size() : 0;
    }

    int legal(int i) {
        if (!on || i < 0 || i >= moves()) {
            return -1;
        }
        int[] m = legalMoves().get(i);
        return m[0] + 64 * m[1] + 4096 * m[2];
    }

    int attackers(int square, int side) {
        if (square < 0 || square > 63 || side < 0 || side > 1) {
            return -1;
        }
        return countAttackers(on ? now() : board, square, side);
    }

    boolean check() {
        return on && inCheck(now(), now().side);
    }

    int verdict() {
        if (!on) {
            return 0;
        }
        if (moves() == 0) {
            return check() ? 1 : 2;
        }
        if (dead()) {
            return 3;
        }
        return times() >= 5 ? 4 : clock() >= 150 ? 5 : 0;
    }

    int claims() {
        return !on ? 0 : (times() >= 3 ? 1 : 0) + (clock() >= 100 ? 2 : 0);
    }

    int clock() {
        return on ? now().clock : 0;
    }

    int plies() {
        return on ? game.size() - 1 : 0;
    }

    int search(int depth) {
        return !on || depth < 0 || depth > 2 ? -10000 : value(now(), depth);
    }

    private static int value(Place p, int depth) {
        if (depth == 0) {
            int[] worth = {0, 1, 3, 3, 5, 9, 0};
            int sum = 0;
            for (int piece : p.at) {
                sum += piece == 0 ? 0 : piece / 8 == p.side ? worth[piece % 8] : -worth[piece % 8];
            }
            return sum;
        }
        List<int[]> all = legalMoves(p);
        if (all.isEmpty()) {
            return inCheck(p, p.side) ? -1000 : 0;
        }
        int best = Integer.MIN_VALUE;
        for (int[] m : all) {
            best = Math.max(best, -value(after(p, m), depth - 1));
        }
        return best;
    }

    private boolean dead() {
        List<Integer> left = new ArrayList<>();
        for (int s = 0; s < 64; s++) {
            int piece = now().at[s];
            if (piece != 0 && piece % 8 != 6) {
                left.add(100 * ((s % 8 + s / 8) % 2) + piece);
            }
        }
        if (left.isEmpty()) {
            return true;
        }
        if (left.size() == 1) {
            int kind = left.get(0) % 100 % 8;
            return kind == 2 || kind == 3;
        }
        if (left.size() == 2) {
            int first = left.get(0);
            int second = left.get(1);
            boolean bishops = first % 100 == 3 && second % 100 == 11 || first % 100 == 11 && second % 100 == 3;
            return bishops && first / 100 == second / 100;
        }
        return false;
    }

    private int times() {
        int times = 0;
        for (Place p : game) {
            times += alike(p, now()) ? 1 : 0;
        }
        return times;
    }

    private static boolean alike(Place p, Place q) {
        if (p.side != q.side || p.rights != q.rights || !java.util.Arrays.equals(p.at, q.at)) {
            return false;
        }
        if (p.passant == -1 && q.passant == -1) {
            return true;
        }
        boolean inP = takesPassant(p);
        boolean inQ = takesPassant(q);
        return !inP && !inQ || inP && inQ && p.passant == q.passant;
    }

    private static boolean takesPassant(Place p) {
        for (int[] m : legalMoves(p)) {
            if (p.passant != -1 && m[1] == p.passant && p.at[m[0]] % 8 == 1) {
                return true;
            }
        }
        return false;
    }

    private static boolean attacks(Place p, int from, int to) {
        int files = to % 8 - from % 8;
        int ranks = to / 8 - from / 8;
        int wide = Math.abs(files);
        int high = Math.abs(ranks);
        switch (p.at[from]) {
            case 1:
                return ranks == 1 && wide == 1;
            case 9:
                return ranks == -1 && wide == 1;
            case 2:
            case 10:
                return wide * high == 2;
            case 6:
            case 14:
                return Math.max(wide, high) == 1;
            default:
                break;
        }
        int kind = p.at[from] % 8;
        boolean straight = (wide == 0) != (high == 0);
        boolean aslant = wide == high && wide > 0;
        if (!(straight && (kind == 4 || kind == 5) || aslant && (kind == 3 || kind == 5))) {
            return false;
        }
        int step = Integer.signum(files) + 8 * Integer.signum(ranks);
        for (int s = from + step; s != to; s += step) {
            if (p.at[s] != 0) {
                return false;
            }
        }
        return true;
    }

    private static int countAttackers(Place p, int square, int side) {
        int count = 0;
        for (int s = 0; s < 64; s++) {
            count += p.at[s] != 0 && p.at[s] / 8 == side && attacks(p, s, square) ? 1 : 0;
        }
        return count;
    }

    private static boolean inCheck(Place p, int side) {
        for (int s = 0; s < 64; s++) {
            if (p.at[s] == 6 + 8 * side) {
                return countAttackers(p, s, 1 - side) > 0;
            }
        }
        return false;
    }

    private List<int[]> legalMoves() {
        if (found == null) {
            found = legalMoves(now());
        }
        return found;
    }

    private static List<int[]> legalMoves(Place p) {
        List<int[]> all = new ArrayList<>();
        for (int from = 0; from < 64; from++) {
            if (p.at[from] == 0 || p.at[from] / 8 != p.side) {
                continue;
            }
            for (int to = 0; to < 64; to++) {
                if (!isMove(p, from, to)) {
                    continue;
                }
                boolean promotes = p.at[from] % 8 == 1 && to / 8 == (p.side == 0 ? 7 : 0);
                for (int promotion = promotes ? 2 : 0; promotion <= (promotes ? 5 : 0); promotion++) {
                    int[] m = {from, to, promotion};
                    if (!inCheck(after(p, m), p.side)) {
                        all.add(m);
                    }
                }
            }
        }
        return all;
    }

    private static boolean isMove(Place p, int from, int to) {
        int there = p.at[to];
        boolean others = there != 0 && there / 8 != p.side;
        if (p.at[from] % 8 == 1) {
            int ahead = p.side == 0 ? 8 : -8;
            if (to == from + ahead) {
                return there == 0;
            }
            if (to == from + 2 * ahead) {
                return from / 8 == (p.side == 0 ? 1 : 6) && there == 0 && p.at[from + ahead] == 0;
            }
            return attacks(p, from, to) && (others || to == p.passant);
        }
        if (attacks(p, from, to)) {
            return there == 0 || others;
        }
        return p.at[from] % 8 == 6 && castles(p, from, to);
    }

    private static boolean castles(Place p, int from, int to) {
        int k = p.side == 0 ? 4 : 60;
        boolean isShort = to == k + 2;
        if (from != k || !isShort && to != k - 2) {
            return false;
        }
        int right = (isShort ? 1 : 2) * (p.side == 0 ? 1 : 4);
        if ((p.rights & right) == 0 || inCheck(p, p.side)) {
            return false;
        }
        int rook = isShort ? k + 3 : k - 4;
        for (int s = Math.min(k, rook) + 1; s < Math.max(k, rook); s++) {
            if (p.at[s] != 0) {
                return false;
            }
        }
        return countAttackers(p, isShort ? k + 1 : k - 1, 1 - p.side) == 0;
    }

    private static Place after(Place p, int[] m) {
        Place q = p.copy();
        int from = m[0];
        int to = m[1];
        int piece = p.at[from];
        boolean pawn = piece % 8 == 1;
        boolean takes = p.at[to] != 0;
        if (pawn && to == p.passant) {
            q.at[p.side == 0 ? to - 8 : to + 8] = 0;
            takes = true;
        }
        q.at[from] = 0;
        q.at[to] = m[2] == 0 ? piece : m[2] + 8 * p.side;
        if (piece % 8 == 6 && to == from + 2) {
            q.at[from + 1] = q.at[from + 3];
            q.at[from + 3] = 0;
        }
        if (piece % 8 == 6 && to == from - 2) {
            q.at[from - 1] = q.at[from - 4];
            q.at[from - 4] = 0;
        }
        q.passant = pawn && Math.abs(from - to) == 16 ? (from + to) / 2 : -1;
        q.clock = pawn || takes ? 0 : p.clock + 1;
        int[] king = {4, 4, 60, 60};
        int[] rook = {7, 0, 63, 56};
        for (int r = 0; r < 4; r++) {
            if (from == king[r] || to == king[r] || from == rook[r] || to == rook[r]) {
                q.rights &= 15 - (1 << r);
            }
        }
        q.side = 1 - p.side;
        return q;
    }
}
