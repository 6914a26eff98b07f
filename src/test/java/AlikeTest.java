/** Which positions are alike (under "Terms"), as claims() counts them. */
public final class AlikeTest {
    public static void main(String[] args) {
        byEveryPairOfSquares();
        byKindOfPiece();
        byKindOfPieceBesideOthers();
        notByWhichOfTwoPieces();
        byColour();
        bySide();
        byRights();
        byEachRight();
        byPassant();
        byPassantThatNoPawnMayTake();
        byPassantThatAPawnMayTake();
        byPassantOnEveryFile();
        notByMovesOfAnEarlierGame();
        notByHowLongAgo();
        Due.finish();
    }

    private static void byEveryPairOfSquares() {
        for (int s = 0; s < 64; s++) {
            for (int t = 0; t < 64; t++) {
                if (s != t) {
                    rookBetween(s, t);
                }
            }
        }
    }

    private static boolean isRookWay(int from, int to) {
        return from != to && (from % 8 == to % 8 || from / 8 == to / 8);
    }

    private static boolean isNear(int a, int b) {
        return Math.abs(a % 8 - b % 8) <= 1 && Math.abs(a / 8 - b / 8) <= 1;
    }

    /** Whether a rook that goes from s by u to t neither passes over the square nor attacks it. */
    private static boolean isOff(int square, int s, int u, int t) {
        boolean isHit = isRookWay(square, s) || isRookWay(square, u) || isRookWay(square, t);
        return !isHit && square != s && square != u && square != t;
    }

    private static void rookBetween(int s, int t) {
        int u = 0;
        while (!isRookWay(s, u) || !isRookWay(u, t)) {
            u++;
        }
        int home = 0;
        int away = 0;
        while (!isOff(home, s, u, t) || !isOff(away, s, u, t) || home == away || !isNear(home, away)) {
            away++;
            home += away / 64;
            away %= 64;
        }
        int king = 0;
        while (!isOff(king, s, u, t) || isNear(king, home) || isNear(king, away)) {
            king++;
        }
        Arbiter x = Boards.empty();
        x.put(s, 4);
        x.put(king, 6);
        x.put(home, 14);
        Due.due("a rook on " + s, x.start(0, 0, -1), 0);
        goThereAndBack(x, new int[] {s, u, t, u, s}, new int[] {home, away, home, away, home});
        Due.due("a rook on " + s + ", " + t + " and " + s, x.claims(), 0);
        goThereAndBack(x, new int[] {s, u, t, u, s}, new int[] {home, away, home, away, home});
        Due.due("a rook on " + s + " for the third time", x.claims(), 1);
    }

    private static void goThereAndBack(Arbiter x, int[] white, int[] black) {
        for (int i = 0; i + 1 < white.length; i++) {
            Due.due("white from " + white[i], x.move(white[i], white[i + 1], 0), 0);
            Due.due("black from " + black[i], x.move(black[i], black[i + 1], 0), 0);
        }
    }

    // Two of white on d1 and e1 exchange their squares, then go back to them.
    private static void exchange(String pieces, int atReturn) {
        String fen = "8/7k/8/8/8/" + (pieces.contains("K") ? "8" : "1K6") + "/8/3" + pieces + "3 w - -";
        Arbiter x = Boards.game(fen);
        Boards.playAll(x, "e1e2 h7h8 d1e1 h8h7 e2d2 h7h8 d2d1 h8h7");
        Due.due(pieces + " exchanged", x.claims(), 0);
        Boards.playAll(x, "d1d2 h7h8 e1d1 h8h7 d2e2 h7h8 e2e1 h8h7");
        Due.due(pieces + " back again", x.claims(), atReturn);
    }

    private static void byKindOfPiece() {
        exchange("KR", 0);
        exchange("KQ", 0);
        exchange("QR", 0);
        exchange("RQ", 0);
        exchange("QK", 0);
        exchange("RK", 0);
    }

    // Queen and rook exchange their squares, and a knight of black stands beside either of them.
    private static void byKindOfPieceBesideOthers() {
        String fen = "6k1/8/8/8/8/8/8/KQn2Rn1 w - -";
        String there = "b1b5 g8h8 f1f4 h8g8 f4b4 g8h8 b4b1 h8g8 b5f5 g8h8 f5f1 h8g8";
        String back = "f1f5 g8h8 f5b5 h8g8 b1b4 g8h8 b4f4 h8g8 f4f1 g8h8 b5b1 h8g8";
        for (int way = 0; way < Mirror.ways(fen); way++) {
            Arbiter x = Boards.game(Mirror.fen(fen, way));
            Boards.playAll(x, Mirror.moves(there, way));
            Due.due("exchanged beside knights", x.claims(), 0);
            Boards.playAll(x, Mirror.moves(back, way));
            Due.due("back again beside knights", x.claims(), 0);
            Boards.playAll(x, Mirror.moves(there + " " + back, way));
            Due.due("three times beside knights", x.claims(), 1);
        }
    }

    private static void notByWhichOfTwoPieces() {
        exchange("RR", 1);
        exchange("QQ", 1);
    }

    private static void byColour() {
        Arbiter x = Boards.game("8/7k/8/8/8/1K6/8/3Rr3 w - -");
        Boards.playAll(x, "d1d2 e1d1 d2e2 h7h8 e2e1 h8h7");
        Due.due("the rooks exchanged", x.claims(), 0);
        Boards.playAll(x, "e1e2 d1e1 e2d2 h7h8 d2d1 h8h7");
        Due.due("the rooks back again", x.claims(), 0);
    }

    private static void byRights() {
        Arbiter x = Boards.game("r3k2r/8/8/8/8/8/8/R3K2R w KQkq -");
        for (int i = 0; i < 3; i++) {
            Due.due("round " + i + ": claims", x.claims(), 0);
            Boards.playAll(x, "h1g1 h8g8 g1h1 g8h8");
        }
        Due.due("three times with the rights left", x.claims(), 1);
    }

    private static void byEachRight() {
        String fen = "r3k2r/8/8/8/8/8/8/R3K2R ";
        losesRight(fen + "w K -", "h1g1 a8b8 g1h1 b8a8");
        losesRight(fen + "w Q -", "a1b1 h8g8 b1a1 g8h8");
        losesRight(fen + "w k -", "a1b1 h8g8 b1a1 g8h8");
        losesRight(fen + "w q -", "h1g1 a8b8 g1h1 b8a8");
        losesRight(fen + "b K -", "a8b8 h1g1 b8a8 g1h1");
        losesRight(fen + "b Q -", "h8g8 a1b1 g8h8 b1a1");
        losesRight(fen + "b k -", "h8g8 a1b1 g8h8 b1a1");
        losesRight(fen + "b q -", "a8b8 h1g1 b8a8 g1h1");
    }

    private static void losesRight(String fen, String round) {
        Arbiter x = Boards.game(fen);
        Boards.playAll(x, round);
        Due.due(fen + ": the right is lost", x.rights(), 0);
        Boards.playAll(x, round);
        Due.due(fen + ": twice without the right", x.claims(), 0);
        Boards.playAll(x, round);
        Due.due(fen + ": three times without it", x.claims(), 1);
    }

    private static void byPassant() {
        Arbiter x = Boards.game("4k1n1/3p4/8/4P3/8/8/8/4K1N1 b - -");
        Boards.playAll(x, "d7d5");
        for (int i = 0; i < 3; i++) {
            Due.due("round " + i + ": claims", x.claims(), 0);
            Boards.playAll(x, "g1f3 g8f6 f3g1 f6g8");
        }
        Due.due("three times without passant square", x.claims(), 1);
        Arbiter first = Boards.game("4k1n1/8/8/3pP3/8/8/8/4K1N1 w - d6");
        Walks.knightsDance(first, 2);
        Due.due("passant square of the first position", first.claims(), 0);
        Walks.knightsDance(first, 1);
        Due.due("three times behind it", first.claims(), 1);
    }

    private static void byPassantThatNoPawnMayTake() {
        String knights = "g1f3 g8f6 f3g1 f6g8";
        comesAgain("4k1n1/3p4/8/8/8/8/8/4K1N1 b - -", "d7d5", knights, "no pawn is near", 1);
        comesAgain("4k1n1/8/8/3p4/8/8/8/4K1N1 w - d6", "", knights, "no pawn is near at first", 1);
        String[] squares = {"c4", "f4", "a6", "h6"};
        String[] ranks = {"8/8/2N5", "8/8/5B2", "R7/8/8", "7Q/8/8"};
        for (int i = 0; i < ranks.length; i++) {
            String fen = "4k1n1/3p4/" + ranks[i] + "/8/8/4K1N1 b - -";
            Arbiter x = Boards.game(fen);
            Boards.playAll(x, "d7d5");
            Due.due("a piece can go there", Boards.lists(x, squares[i] + "d6"), true);
            comesAgain(fen, "d7d5", knights, "only a piece can go there", 1);
        }
        comesAgain("6n1/7k/2K5/3p4/8/8/8/6N1 w - d6", "", knights, "only the king can go there", 1);
        String pinned = "4r1k1/3p4/8/4P3/8/8/8/4K1N1 b - -";
        Arbiter x = Boards.game(pinned);
        Boards.playAll(x, "d7d5");
        Due.due("passant", x.passant(), 43);
        Due.due("the pawn is pinned", Boards.lists(x, "e5d6"), false);
        String round = "g1f3 g8h8 f3g1 h8g8";
        comesAgain(pinned, "d7d5", round, "a pinned pawn does not count", 1);
        comesAgain("4r1k1/8/8/3pP3/8/8/8/4K1N1 w - d6", "", round, "pinned in the first position", 1);
        String both = "b3r1k1/3p4/8/2P1P3/8/8/8/4K1N1 b - -";
        comesAgain(both, "d7d5", round, "one pinned, the other free", 0);
        String inLine = "6k1/3p4/8/K3P2r/8/8/8/8 b - -";
        comesAgain(inLine, "d7d5", "a5a4 g8h8 a4a5 h8g8", "both pawns would leave the rank", 1);
        String uncovered = "4b1k1/3p4/8/4P3/K7/8/8/8 b - -";
        comesAgain(uncovered, "d7d5", "a4a3 e8f7 a3a4 f7e8", "taking would not end the check", 1);
    }

    private static void byPassantThatAPawnMayTake() {
        String aslant = "6k1/3p4/8/4P3/8/8/8/B3K3 b - -";
        comesAgain(aslant, "d7d5", "e1d1 g8h8 d1e1 h8g8", "a pawn may take", 0);
        String either = "6k1/3p4/8/2P1P3/8/8/8/4K3 b - -";
        comesAgain(either, "d7d5", "e1d1 g8h8 d1e1 h8g8", "two pawns may take", 0);
        String onePinned = "4r1k1/3p4/8/2P1P3/8/8/8/4K3 b - -";
        comesAgain(onePinned, "d7d5", "e1d1 g8h8 d1e1 h8g8", "one of two is pinned", 0);
        String foremost = "8/3p4/K7/4P3/8/8/8/6k1 b - -";
        comesAgain(foremost, "d7d5", "a6a7 g1h1 a7a6 h1g1", "to take is the first of all moves", 0);
        String black = "6k1/8/8/8/3p4/8/4P3/4K3 w - -";
        comesAgain(black, "e2e4", "g8h8 e1d1 h8g8 d1e1", "black may take", 0);
        comesAgain("6k1/8/8/8/3p4/8/5P2/4K3 w - -", "f2f4", "g8h8 e1d1 h8g8 d1e1", "black is too far away", 1);
    }

    private static void comesAgain(String fen, String step, String round, String what, int want) {
        for (int way = 0; way < Mirror.ways(fen); way++) {
            String other = Mirror.fen(fen, way);
            comesAgainSo(other, Mirror.moves(step, way), Mirror.moves(round, way), what + " (" + other + ")", want);
        }
    }

    // Two rounds: three times the position if the one with the passant square is alike, else twice.
    private static void comesAgainSo(String fen, String step, String round, String what, int want) {
        Arbiter x = Boards.game(fen);
        if (!step.isEmpty()) {
            Boards.playAll(x, step);
        }
        Due.due(what + ": there is a passant square", x.passant() >= 0, true);
        Boards.playAll(x, round);
        Due.due(what + ": twice at most", x.claims(), 0);
        Boards.playAll(x, round);
        Due.due(what, x.claims(), want);
        Boards.playAll(x, round);
        Due.due(what + ": three times at least", x.claims(), 1);
    }

    private static void byPassantOnEveryFile() {
        for (char file = 'a'; file <= 'h'; file++) {
            String step = file + "7" + file + "5";
            for (char taker = 'a'; taker <= 'h'; taker++) {
                String fen = "6k1/" + rankWith(file, 'p') + "/8/" + rankWith(taker, 'P') + "/8/8/8/4K3 b - -";
                boolean isNext = Math.abs(file - taker) == 1;
                if (file != taker) {
                    comesAgain(fen, step, "e1d1 g8h8 d1e1 h8g8", "pawns on " + file + " and " + taker, isNext ? 0 : 1);
                }
            }
        }
    }

    private static String rankWith(char file, char piece) {
        int before = file - 'a';
        return (before == 0 ? "" : "" + before) + piece + (before == 7 ? "" : "" + (7 - before));
    }

    // In the first game e5d6 is the tenth legal move; in the second, with nine, it is none.
    private static void notByMovesOfAnEarlierGame() {
        Arbiter x = Boards.game("6k1/8/3n4/4P3/8/P7/8/4K1N1 w - -");
        Due.due("the tenth move", x.legal(9), 36 + 64 * 43);
        x.clear();
        String second = "4r1k1/8/8/3pP3/8/8/8/4K1N1 w - d6";
        Boards.fill(x, second);
        Due.due("start of " + second, Boards.start(x, second), 0);
        Due.due("nine moves", x.moves(), 9);
        Boards.playAll(x, "g1f3 g8h8 f3g1 h8g8 g1f3 g8h8 f3g1 h8g8");
        Due.due("a pawn that could take in an earlier game", x.claims(), 1);
    }

    // Rounds of 7 and of 5 stops: the first position comes again behind 70 plies and behind 140.
    private static void notByHowLongAgo() {
        Arbiter x = Walks.rooks();
        String[] white = "b1 c1 d1 d2 c2 a2 a1".split(" ");
        String[] black = "b8 c8 d8 e8 a8".split(" ");
        Walks.rounds(x, white, black, 0, 139);
        Due.due("139 plies: twice", x.claims(), 2);
        Walks.rounds(x, white, black, 139, 1);
        Due.due("140 plies: three times", x.claims(), 3);
        Walks.rounds(x, white, black, 140, 1);
        Due.due("141 plies: three times", x.claims(), 3);
    }

    private static void bySide() {
        Arbiter x = Boards.game("4k3/8/8/8/8/8/R7/4K3 w - -");
        Boards.playAll(x, "a2a3 e8d8 a3a1 d8e8 a1a2 e8d8 a2b2 d8d7 b2a2 d7e8");
        Due.due("twice with white to move, once with black", x.claims(), 0);
        Boards.playAll(x, "a2b2 e8d8 b2a2 d8e8");
        Due.due("three times with white to move", x.claims(), 1);
    }
}
