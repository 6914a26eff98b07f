/** The edges of the board, the empty board and the full one. */
public final class EdgeTest {
    public static void main(String[] args) {
        attacksFromEverySquare();
        ridersStopAtTheFirstPiece();
        emptyBoard();
        fullBoardOfQueens();
        fullBoardOfKnights();
        fullBoardOfPawns();
        fullBoardIsTooMany();
        movesOverTheEdge();
        pawnsTakeOverTheEdge();
        passantOverTheEdge();
        passantAtTheEdge();
        startPassantAtTheEdge();
        pawnsFromTheSecondRank();
        pawnsToTheLastRank();
        checkOverTheEdge();
        checkOnEverySquare();
        Due.finish();
    }

    // On an empty board, by the document's words.
    private static boolean attacks(int piece, int from, int to) {
        int files = Math.abs(to % 8 - from % 8);
        int ranks = Math.abs(to / 8 - from / 8);
        boolean aslant = files == ranks && files > 0;
        boolean straight = files == 0 && ranks > 0 || ranks == 0 && files > 0;
        switch (piece) {
            case 1:
                return files == 1 && to / 8 == from / 8 + 1;
            case 9:
                return files == 1 && to / 8 == from / 8 - 1;
            case 2, 10:
                return files == 1 && ranks == 2 || files == 2 && ranks == 1;
            case 3, 11:
                return aslant;
            case 4, 12:
                return straight;
            case 5, 13:
                return aslant || straight;
            default:
                return Math.max(files, ranks) == 1;
        }
    }

    private static void attacksFromEverySquare() {
        for (int piece = 1; piece <= 14; piece++) {
            for (int from = 0; from < 64 && piece != 7 && piece != 8; from++) {
                Arbiter x = Boards.empty();
                x.put(from, piece);
                int side = piece / 8;
                for (int to = 0; to < 64; to++) {
                    String what = piece + " on " + from + ": attackers of " + to;
                    Due.due(what, x.attackers(to, side), attacks(piece, from, to) ? 1 : 0);
                    Due.due(what + " by the others", x.attackers(to, 1 - side), 0);
                }
            }
        }
    }

    private static void ridersStopAtTheFirstPiece() {
        Arbiter x = Boards.pieces("q2r2b1/8/8/3N4/8/8/8/3R3B");
        Due.due("the knight itself from above", x.attackers(35, 1), 3);
        Due.due("the knight itself from below", x.attackers(35, 0), 2);
        Due.due("behind it, below", x.attackers(27, 1), 0);
        Due.due("behind it, above", x.attackers(43, 0), 0);
        Due.due("above it", x.attackers(43, 1), 1);
        Due.due("behind it, towards h1", x.attackers(28, 1), 0);
        Due.due("towards a8", x.attackers(42, 0), 0);
        x.put(35, 0);
        Due.due("all the way down", x.attackers(3, 1), 1);
        Due.due("all the way up", x.attackers(59, 0), 1);
        Due.due("all the way aslant", x.attackers(7, 1), 1);
        Due.due("and back", x.attackers(56, 0), 1);
    }

    private static void emptyBoard() {
        Arbiter x = Boards.empty();
        for (int square = 0; square < 64; square++) {
            Due.due("empty: piece(" + square + ")", x.piece(square), 0);
            Due.due("empty: attackers(" + square + ", 0)", x.attackers(square, 0), 0);
            Due.due("empty: attackers(" + square + ", 1)", x.attackers(square, 1), 0);
            Due.due("empty: put(" + square + ", 0)", x.put(square, 0), true);
        }
        Due.due("empty: start(0, 0, -1)", x.start(0, 0, -1), MateArbiter.MEN);
        Due.due("empty: start(1, 15, 63)", x.start(1, 15, 63), MateArbiter.MEN);
        Due.due("empty: start(2, 0, -1)", x.start(2, 0, -1), MateArbiter.BAD);
        Due.due("empty: move", x.move(12, 28, 0), MateArbiter.BAD);
        Due.due("empty: back", x.back(), false);
        Due.due("empty: check", x.check(), false);
        Due.due("empty: verdict", x.verdict(), 0);
        Due.due("empty: claims", x.claims(), 0);
        x.clear();
        Due.due("empty, cleared again: start", x.start(0, 0, -1), MateArbiter.MEN);
        x.standard();
        Due.due("a game behind the empty board", x.moves(), 20);
    }

    private static Arbiter full(int piece) {
        Arbiter x = Boards.empty();
        for (int square = 0; square < 64; square++) {
            Due.due("full: put(" + square + ", " + piece + ")", x.put(square, piece), true);
        }
        return x;
    }

    private static void fullBoardOfQueens() {
        Arbiter x = full(5);
        Arbiter y = full(14);
        for (int square = 0; square < 64; square++) {
            int files = square % 8 == 0 || square % 8 == 7 ? 2 : 3;
            int ranks = square / 8 == 0 || square / 8 == 7 ? 2 : 3;
            Due.due("64 queens: attackers(" + square + ", 0)", x.attackers(square, 0), files * ranks - 1);
            Due.due("64 queens: attackers(" + square + ", 1)", x.attackers(square, 1), 0);
            Due.due("64 kings: attackers(" + square + ", 1)", y.attackers(square, 1), files * ranks - 1);
            Due.due("64 kings: attackers(" + square + ", 0)", y.attackers(square, 0), 0);
        }
    }

    private static void fullBoardOfKnights() {
        Arbiter x = full(2);
        int[] wanted = {
            2, 3, 4, 4, 4, 4, 3, 2,
            3, 4, 6, 6, 6, 6, 4, 3,
            4, 6, 8, 8, 8, 8, 6, 4,
            4, 6, 8, 8, 8, 8, 6, 4,
        };
        for (int square = 0; square < 64; square++) {
            int want = wanted[square < 32 ? square : 63 - square];
            Due.due("64 knights: attackers(" + square + ", 0)", x.attackers(square, 0), want);
        }
    }

    private static void fullBoardOfPawns() {
        Arbiter white = full(1);
        Arbiter black = full(9);
        for (int square = 0; square < 64; square++) {
            int next = square % 8 == 0 || square % 8 == 7 ? 1 : 2;
            String what = "64 pawns: attackers of " + square;
            Due.due(what + " by white", white.attackers(square, 0), square / 8 == 0 ? 0 : next);
            Due.due(what + " by black", black.attackers(square, 1), square / 8 == 7 ? 0 : next);
        }
    }

    private static void fullBoardIsTooMany() {
        for (int piece = 1; piece <= 14; piece++) {
            if (piece != 7 && piece != 8) {
                Arbiter x = full(piece);
                Due.due("64 times " + piece, x.start(0, 0, -1), MateArbiter.MEN);
                x.put(4, 6);
                x.put(60, 14);
                Due.due("62 times " + piece + " and the kings", x.start(1, 0, -1), MateArbiter.MEN);
            }
        }
        Arbiter both = Boards.empty();
        Boards.fill(both, "rnbqkbnr/pppppppp/8/8/8/8/PPPPPPPP/RNBQKBNR");
        Due.due("put a 17th white", both.put(16, 1), true);
        Due.due("17 white", both.start(0, 15, -1), MateArbiter.MEN);
        Due.due("take it away", both.put(16, 0), true);
        Due.due("put a 17th black", both.put(47, 13), true);
        Due.due("17 black", both.start(0, 15, -1), MateArbiter.MEN);
        Due.due("in place of a white pawn", both.put(8, 13), true);
        Due.due("18 black", both.start(0, 15, -1), MateArbiter.MEN);
        Due.due("take both away", both.put(8, 1) && both.put(47, 0), true);
        Due.due("16 and 16", both.start(0, 15, -1), 0);
    }

    private static void refuses(String fen, int from, int to, int promotion) {
        Arbiter x = Boards.game(fen);
        String before = Boards.state(x);
        Due.due(fen + ": move(" + from + ", " + to + ", " + promotion + ")", x.move(from, to, promotion), MateArbiter.BAD);
        Due.due(fen + ": nothing has changed", Boards.state(x).equals(before), true);
    }

    private static void makes(String fen, int from, int to, int promotion) {
        Due.due(fen + ": move(" + from + ", " + to + ", " + promotion + ")", Boards.game(fen).move(from, to, promotion), 0);
    }

    // Numbers that lie as far apart as a step would, but on the other side of the board.
    private static void movesOverTheEdge() {
        String right = "k7/p7/8/8/7";
        String left = "7k/7p/8/8/";
        int[] leaps = {-17, -15, -10, -6, 6, 10, 15, 17};
        int[] steps = {-9, -8, -7, -1, 1, 7, 8, 9};
        for (int i = 0; i < 8; i++) {
            over(right + "N/8/8/4K3 w - -", 2, 31, leaps[i]);
            over(left + "N7/8/8/4K3 w - -", 2, 24, leaps[i]);
            over(right + "K/8/8/8 w - -", 6, 31, steps[i]);
            over(left + "K7/8/8/8 w - -", 6, 24, steps[i]);
            for (int far = 1; far <= 3; far++) {
                over(right + "B/8/8/4K3 w - -", 3, 31, far * steps[i]);
                over(left + "B7/8/8/4K3 w - -", 3, 24, far * steps[i]);
                over(right + "R/8/8/4K3 w - -", 4, 31, far * steps[i]);
                over(left + "R7/8/8/4K3 w - -", 4, 24, far * steps[i]);
                over(right + "Q/8/8/4K3 w - -", 5, 31, far * steps[i]);
                over(left + "Q7/8/8/4K3 w - -", 5, 24, far * steps[i]);
            }
        }
        refuses("k7/p7/8/8/8/8/4K3/N7 w - -", 0, 47, 0);
        refuses("k6N/p7/8/8/8/8/4K3/8 w - -", 63, 17, 0);
        refuses("k7/p7/8/8/8/8/8/4K2R w - -", 7, 8, 0);
        refuses("k7/p7/8/8/8/8/4K3/7R w - -", 7, -1, 0);
        refuses("4k3/p7/8/8/8/8/8/3QK3 w - -", 3, -5, 0);
        refuses("3Q4/p7/4k3/8/8/8/8/4K3 w - -", 59, 67, 0);
    }

    private static void over(String fen, int piece, int from, int step) {
        if (!attacks(piece, from, from + step)) {
            refuses(fen, from, from + step, 0);
        }
    }

    private static void pawnsTakeOverTheEdge() {
        refuses("k7/8/8/n7/7P/8/8/K7 w - -", 31, 32, 0);
        refuses("k7/8/n7/8/7P/8/8/K7 w - -", 31, 40, 0);
        refuses("k7/8/8/8/P6n/8/8/K7 w - -", 24, 31, 0);
        refuses("k7/8/8/7n/P7/8/8/K7 w - -", 24, 39, 0);
        refuses("7k/8/8/p7/7N/8/8/7K b - -", 32, 31, 0);
        refuses("7k/8/8/p7/8/7N/8/K7 b - -", 32, 23, 0);
        refuses("k7/8/8/N6p/8/8/8/7K b - -", 39, 32, 0);
        refuses("k7/8/8/7p/N7/8/8/7K b - -", 39, 24, 0);
        makes("k7/8/8/6n1/7P/8/8/K7 w - -", 31, 38, 0);
        makes("k7/8/8/1n6/P7/8/8/K7 w - -", 24, 33, 0);
        makes("7k/8/8/p7/1N6/8/8/7K b - -", 32, 25, 0);
        makes("k7/8/8/7p/6N1/8/8/7K b - -", 39, 30, 0);
    }

    private static void passantOverTheEdge() {
        refuses("4k3/8/8/p7/7P/8/8/4K3 w - a6", 31, 40, 0);
        refuses("4k3/8/8/p6P/8/8/8/4K3 w - a6", 39, 40, 0);
        refuses("4k3/8/P7/7p/8/8/8/4K3 w - h6", 40, 47, 0);
        refuses("4k3/8/8/P6p/8/8/8/4K3 w - h6", 32, 47, 0);
        refuses("4k3/8/8/8/P7/7p/8/4K3 b - a3", 23, 16, 0);
        refuses("4k3/8/8/8/P6p/8/8/4K3 b - a3", 31, 16, 0);
        refuses("4k3/8/8/p7/7P/8/8/4K3 b - h3", 32, 23, 0);
        refuses("4k3/8/8/8/p6P/8/8/4K3 b - h3", 24, 23, 0);
    }

    private static void passantAtTheEdge() {
        takesInPassing("4k3/p7/8/1P6/8/8/8/4K3 b - -", "a7a5", "b5a6", 32);
        takesInPassing("4k3/7p/8/6P1/8/8/8/4K3 b - -", "h7h5", "g5h6", 39);
        takesInPassing("4k3/1p6/8/P7/8/8/8/4K3 b - -", "b7b5", "a5b6", 33);
        takesInPassing("4k3/6p1/8/7P/8/8/8/4K3 b - -", "g7g5", "h5g6", 38);
        takesInPassing("4k3/8/8/8/1p6/8/P7/4K3 w - -", "a2a4", "b4a3", 24);
        takesInPassing("4k3/8/8/8/6p1/8/7P/4K3 w - -", "h2h4", "g4h3", 31);
        takesInPassing("4k3/8/8/8/p7/8/1P6/4K3 w - -", "b2b4", "a4b3", 25);
        takesInPassing("4k3/8/8/8/7p/8/6P1/4K3 w - -", "g2g4", "h4g3", 30);
    }

    private static void takesInPassing(String fen, String steps, String takes, int taken) {
        Arbiter x = Boards.game(fen);
        Boards.playAll(x, steps);
        int passing = x.piece(taken);
        Due.due(fen + ": listed", Boards.lists(x, takes), true);
        Boards.playAll(x, takes);
        Due.due(fen + ": taken", x.piece(taken), 0);
        Due.due(fen + ": arrived", x.piece(Boards.square(takes.substring(2))), passing ^ 8);
        Due.due(fen + ": passant()", x.passant(), -1);
        Due.due(fen + ": back", x.back(), true);
        Due.due(fen + ": there again", x.piece(taken), passing);
        Due.due(fen + ": passant() again", x.passant(), Boards.square(takes.substring(2)));
    }

    private static void startPassantAtTheEdge() {
        for (int file = 0; file < 8; file++) {
            for (int passant = 0; passant < 64; passant++) {
                startsWithPassant(0, 32 + file, 9, passant, passant == 40 + file);
                startsWithPassant(1, 24 + file, 1, passant, passant == 16 + file);
            }
            startsWithPassant(0, 32 + file, 1, 40 + file, false);
            startsWithPassant(1, 24 + file, 9, 16 + file, false);
            startsWithPassant(0, 24 + file, 9, 32 + file, false);
            startsWithPassant(0, 40 + file, 9, 48 + file, false);
            startsWithPassant(1, 32 + file, 1, 24 + file, false);
            startsWithPassant(1, 16 + file, 1, 8 + file, false);
        }
    }

    private static void startsWithPassant(int side, int square, int pawn, int passant, boolean isRight) {
        Arbiter x = Boards.empty();
        x.put(side == 0 ? 0 : 56, 6);
        x.put(side == 0 ? 7 : 63, 14);
        x.put(square, pawn);
        String call = pawn + " on " + square + ": start(" + side + ", 0, " + passant + ")";
        Due.due(call, x.start(side, 0, passant), isRight ? 0 : MateArbiter.PASSANT);
        Due.due(call + ", passant()", x.passant(), isRight ? passant : -1);
    }

    private static void pawnsFromTheSecondRank() {
        for (int rank = 1; rank <= 6; rank++) {
            for (int file = 0; file < 8; file += 7) {
                int from = 8 * rank + file;
                steps(0, from, 16, rank == 1);
                steps(1, from, -16, rank == 6);
            }
        }
        String white = "4k3/8/8/8/%s/%s/P6P/4K3 w - -";
        refuses(String.format(white, "8", "n6n"), 8, 24, 0);
        refuses(String.format(white, "8", "N6N"), 15, 31, 0);
        refuses(String.format(white, "n6n", "8"), 8, 24, 0);
        refuses(String.format(white, "N6N", "8"), 15, 31, 0);
        String black = "4k3/p6p/%s/%s/8/8/8/4K3 b - -";
        refuses(String.format(black, "n6n", "8"), 48, 32, 0);
        refuses(String.format(black, "N6N", "8"), 55, 39, 0);
        refuses(String.format(black, "8", "n6n"), 48, 32, 0);
        refuses(String.format(black, "8", "N6N"), 55, 39, 0);
    }

    private static void steps(int side, int from, int step, boolean isFree) {
        Arbiter x = Boards.empty();
        x.put(3, 6);
        x.put(59, 14);
        x.put(from, side == 0 ? 1 : 9);
        x.start(side, 0, -1);
        String what = "side " + side + " on " + from;
        Due.due(what + " goes two ranks", x.move(from, from + step, 0), isFree ? 0 : -1);
        Due.due(what + " leaves passant()", x.passant(), isFree ? from + step / 2 : -1);
        Due.due(what + " goes two ranks back", x.move(from, from - step, 0), -1);
        Due.due(what + " goes one rank back", x.move(from, from - step / 2, 0), -1);
        x.back();
        boolean isLast = from / 8 == (side == 0 ? 6 : 1);
        Due.due(what + " goes one rank", x.move(from, from + step / 2, isLast ? 5 : 0), 0);
        Due.due(what + " leaves none", x.passant(), -1);
    }

    private static void pawnsToTheLastRank() {
        for (int file = 0; file < 8; file += 7) {
            int inside = file == 0 ? 1 : 6;
            String white = file == 0 ? "1n1k4/P7/8/8/8/8/8/3K4 w - -" : "3k2n1/7P/8/8/8/8/8/3K4 w - -";
            String black = file == 0 ? "3k4/8/8/8/8/8/p7/1N1K4 b - -" : "3k4/8/8/8/8/8/7p/3K2N1 b - -";
            refuses(white, 48 + file, 56 + file, 0);
            refuses(white, 48 + file, 56 + inside, 0);
            refuses(black, 8 + file, file, 0);
            refuses(black, 8 + file, inside, 0);
            makes(white, 48 + file, 56 + file, 2);
            makes(white, 48 + file, 56 + inside, 5);
            makes(black, 8 + file, file, 5);
            makes(black, 8 + file, inside, 2);
            refuses(white, 48 + file, 64 + file, 5);
            refuses(black, 8 + file, file - 8, 5);
        }
        refuses("3k4/8/P7/8/8/8/8/3K4 w - -", 40, 48, 5);
        refuses("3k4/8/8/8/8/7p/8/3K4 b - -", 23, 15, 5);
    }

    private static void checkOverTheEdge() {
        String[] unharmed = {
            "7k/8/8/K7/7r/8/8/8 w - -", "7k/8/8/8/K6b/8/8/8 w - -", "7k/8/7n/8/K7/8/8/8 w - -",
            "7k/8/8/8/7p/K7/8/8 w - -", "7k/8/8/7p/8/K7/8/8 w - -", "k7/8/8/7K/q7/8/6P1/8 w - -",
            "K7/8/8/8/7P/k7/8/8 b - -", "8/8/7P/k7/8/8/8/K7 b - -", "8/8/8/k6B/8/8/8/K7 b - -",
        };
        for (String fen : unharmed) {
            Due.due("check() of " + fen, Boards.game(fen).check(), false);
        }
        Due.due("aslant from corner to corner", Boards.game("b6k/8/8/8/8/8/8/7K w - -").check(), true);
        Due.due("along the first rank", Boards.game("k7/8/8/8/8/8/8/r6K w - -").check(), true);
        Due.due("along the last file", Boards.game("k6r/8/8/8/8/8/8/7K w - -").check(), true);
    }

    private static void checkOnEverySquare() {
        for (int king = 0; king < 64; king++) {
            for (int square = 0; square < 64; square++) {
                for (int piece = 1; piece <= 5 && square != king; piece++) {
                    boolean isOuterPawn = piece == 1 && (square < 8 || square > 55);
                    if (!isOuterPawn) {
                        attacksKing(king, square, piece, 0);
                        attacksKing(king, square, piece + 8, 1);
                    }
                }
            }
        }
    }

    // The attacker's own king stands where it neither attacks the other nor is in the way.
    private static void attacksKing(int king, int square, int piece, int side) {
        int own = 0;
        while (own == square || own == king || attacks(5, own, king)) {
            own++;
        }
        Arbiter x = Boards.empty();
        x.put(king, 14 - 8 * side);
        x.put(own, 6 + 8 * side);
        x.put(square, piece);
        boolean isCheck = attacks(piece, square, king);
        String what = piece + " on " + square + ", king on " + king;
        if (isCheck) {
            Due.due(what + ": start", x.start(side, 0, -1), MateArbiter.CHECK);
        }
        Due.due(what + ": start", x.start(1 - side, 0, -1), 0);
        Due.due(what + ": check()", x.check(), isCheck);
    }
}
