/** Every range that the document names: all numbers just inside are taken, those outside refused. */
public final class RangeTest {
    private static final int BAD = MateArbiter.BAD;
    private static final String CORNERS = "r3k2r/8/8/8/8/8/8/R3K2R";

    public static void main(String[] args) {
        squaresOfPut();
        piecesOfPut();
        sidesOfStart();
        rightsOfStart();
        passantOfStart();
        fromOfMove();
        toOfMove();
        promotionOfMove();
        noPromotionOfMove();
        squaresOfPiece();
        iOfLegal();
        squaresOfAttackers();
        sidesOfAttackers();
        depthOfSearch();
        Due.finish();
    }

    private static void squaresOfPut() {
        Arbiter x = Boards.empty();
        for (int square = 0; square < 64; square++) {
            Due.due("put(" + square + ", 5)", x.put(square, 5), true);
        }
        for (int square : Numbers.outside(0, 63)) {
            Due.due("put(" + square + ", 9)", x.put(square, 9), false);
            Due.due("put(" + square + ", 0)", x.put(square, 0), false);
        }
        for (int square = 0; square < 64; square++) {
            Due.due("piece(" + square + ") behind all that", x.piece(square), 5);
        }
    }

    private static boolean isPiece(int number) {
        return number >= 0 && number <= 6 || number >= 9 && number <= 14;
    }

    private static void piecesOfPut() {
        Arbiter x = Boards.empty();
        for (int piece = 0; piece <= 14; piece++) {
            if (isPiece(piece)) {
                Due.due("put(63, " + piece + ")", x.put(63, piece), true);
                Due.due("piece(63) behind put of " + piece, x.piece(63), piece);
            }
        }
        refusePieces(x, Numbers.outside(0, 6), 14);
        refusePieces(x, Numbers.outside(9, 14), 14);
        Due.due("put(-1, 7)", x.put(-1, 7), false);
        Due.due("put(64, 15)", x.put(64, 15), false);
    }

    private static void refusePieces(Arbiter x, int[] pieces, int there) {
        for (int piece : pieces) {
            if (!isPiece(piece)) {
                Due.due("put(63, " + piece + ")", x.put(63, piece), false);
                Due.due("piece(63) behind put of " + piece, x.piece(63), there);
            }
        }
    }

    private static void sidesOfStart() {
        Arbiter x = Boards.pieces(CORNERS);
        for (int side : Numbers.outside(0, 1)) {
            Due.due("start(" + side + ", 15, -1)", x.start(side, 15, -1), BAD);
            Due.due("side() behind it", x.side(), BAD);
        }
        Due.due("start(1, 15, -1)", x.start(1, 15, -1), 0);
        Due.due("side()", x.side(), 1);
        Arbiter white = Boards.pieces(CORNERS);
        Due.due("start(0, 15, -1)", white.start(0, 15, -1), 0);
        Due.due("side()", white.side(), 0);
    }

    private static void rightsOfStart() {
        Arbiter x = Boards.pieces(CORNERS);
        for (int rights : Numbers.outside(0, 15)) {
            Due.due("start(0, " + rights + ", -1)", x.start(0, rights, -1), BAD);
            Due.due("rights() behind it", x.rights(), BAD);
        }
        for (int rights = 0; rights <= 15; rights++) {
            Arbiter y = Boards.pieces(CORNERS);
            Due.due("start(0, " + rights + ", -1)", y.start(0, rights, -1), 0);
            Due.due("rights()", y.rights(), rights);
        }
    }

    private static void passantOfStart() {
        Arbiter x = Boards.pieces(CORNERS);
        for (int passant : Numbers.outside(-1, 63)) {
            Due.due("start(0, 15, " + passant + ")", x.start(0, 15, passant), BAD);
            Due.due("passant() behind it", x.passant(), BAD);
        }
        for (int passant = 0; passant <= 63; passant++) {
            Due.due("start(0, 15, " + passant + ")", x.start(0, 15, passant), MateArbiter.PASSANT);
            Due.due("start(1, 15, " + passant + ")", x.start(1, 15, passant), MateArbiter.PASSANT);
        }
        Due.due("start(0, 15, -1)", x.start(0, 15, -1), 0);
        Due.due("passant()", x.passant(), BAD);
    }

    // Knights that go from and to the first and the last square; the pawn keeps the game alive.
    private static final String KNIGHTS_OUT = "7N/8/8/p3k3/8/8/8/N3K3 w - -";
    private static final String KNIGHTS_IN = "8/5N2/8/p7/7k/8/2N5/4K3 w - -";

    private static void fromOfMove() {
        Arbiter x = Boards.game(KNIGHTS_OUT);
        for (int from : Numbers.outside(0, 63)) {
            Due.due("move(" + from + ", 17, 0)", x.move(from, 17, 0), BAD);
            Due.due("move(" + from + ", 46, 0)", x.move(from, 46, 0), BAD);
        }
        Due.due("plies()", x.plies(), 0);
        Due.due("move(0, 17, 0)", x.move(0, 17, 0), 0);
        Due.due("back()", x.back(), true);
        Due.due("move(63, 46, 0)", x.move(63, 46, 0), 0);
    }

    private static void toOfMove() {
        Arbiter x = Boards.game(KNIGHTS_IN);
        for (int to : Numbers.outside(0, 63)) {
            Due.due("move(10, " + to + ", 0)", x.move(10, to, 0), BAD);
            Due.due("move(53, " + to + ", 0)", x.move(53, to, 0), BAD);
        }
        Due.due("plies()", x.plies(), 0);
        Due.due("move(10, 0, 0)", x.move(10, 0, 0), 0);
        Due.due("back()", x.back(), true);
        Due.due("move(53, 63, 0)", x.move(53, 63, 0), 0);
    }

    private static void promotionOfMove() {
        promotes("1n5k/P7/8/8/8/8/8/K7 w - -", 48, 56, 57);
        promotes("7k/8/8/8/8/8/7p/K5N1 b - -", 15, 7, 6);
    }

    private static void promotes(String fen, int from, int ahead, int aslant) {
        Arbiter x = Boards.game(fen);
        for (int promotion : Numbers.outside(2, 5)) {
            Due.due(fen + " promotes to " + promotion, x.move(from, ahead, promotion), BAD);
            Due.due(fen + " takes and promotes to " + promotion, x.move(from, aslant, promotion), BAD);
        }
        // Black's promotions are not said by the numbers of black's pieces.
        for (int promotion = 6; promotion <= 14; promotion++) {
            Due.due(fen + " promotes to " + promotion, x.move(from, ahead, promotion), BAD);
        }
        Due.due("plies()", x.plies(), 0);
        int side = x.side();
        for (int promotion = 2; promotion <= 5; promotion++) {
            Due.due(fen + " promotes to " + promotion, x.move(from, ahead, promotion), 0);
            Due.due("piece", x.piece(ahead), promotion + 8 * side);
            Due.due("back()", x.back(), true);
            Due.due(fen + " takes and promotes to " + promotion, x.move(from, aslant, promotion), 0);
            Due.due("piece", x.piece(aslant), promotion + 8 * side);
            Due.due("back()", x.back(), true);
        }
    }

    private static void noPromotionOfMove() {
        takesNoPromotion("rnbqkbnr/pppppppp/8/8/8/8/PPPPPPPP/RNBQKBNR w KQkq -", 12, 28);
        takesNoPromotion("rnbqkbnr/pppppppp/8/8/8/8/PPPPPPPP/RNBQKBNR w KQkq -", 6, 21);
        takesNoPromotion("7k/P7/8/8/8/8/8/R3K3 w Q -", 4, 2);
        takesNoPromotion("7k/8/8/3pP3/8/8/8/4K3 w - d6", 36, 43);
        takesNoPromotion("7k/R7/8/8/8/8/8/4K3 w - -", 48, 56);
        takesNoPromotion("7k/8/8/8/8/4K3/r7/8 b - -", 8, 0);
        takesNoPromotion("7k/7p/8/8/8/8/8/4K3 b - -", 55, 39);
        takesNoPromotion("7k/8/8/8/8/7p/8/4K3 b - -", 23, 15);
        takesNoPromotion("7k/8/P7/8/8/8/8/4K3 w - -", 40, 48);
    }

    private static void takesNoPromotion(String fen, int from, int to) {
        Arbiter x = Boards.game(fen);
        for (int promotion : Numbers.outside(0, 0)) {
            String call = "move(" + from + ", " + to + ", " + promotion + ")";
            Due.due(fen + ": " + call, x.move(from, to, promotion), BAD);
        }
        Due.due(fen + ": plies()", x.plies(), 0);
        Due.due(fen + ": move(" + from + ", " + to + ", 0)", x.move(from, to, 0), 0);
    }

    private static void squaresOfPiece() {
        Arbiter x = new Arbiter();
        for (int round = 0; round < 2; round++) {
            for (int square : Numbers.outside(0, 63)) {
                Due.due("round " + round + ": piece(" + square + ")", x.piece(square), BAD);
            }
            Due.due("piece(0)", x.piece(0), round == 0 ? 4 : 0);
            Due.due("piece(63)", x.piece(63), round == 0 ? 12 : 0);
            x.clear();
        }
    }

    private static void iOfLegal() {
        Arbiter x = new Arbiter();
        for (int i : Numbers.outside(0, 19)) {
            Due.due("legal(" + i + ")", x.legal(i), BAD);
        }
        Due.due("legal(0)", x.legal(0), 1 + 64 * 16);
        Due.due("legal(19)", x.legal(19), 15 + 64 * 31);
        Boards.playAll(x, "f2f3 e7e5 g2g4");
        Due.due("legal(29) of 30", x.legal(29) != BAD, true);
        Due.due("legal(30) of 30", x.legal(30), BAD);
        Boards.playAll(x, "d8h4");
        Due.due("legal(-1) at mate", x.legal(-1), BAD);
        Due.due("legal(0) at mate", x.legal(0), BAD);
        x.clear();
        Due.due("legal(0) while setting up", x.legal(0), BAD);
        Due.due("legal(-1) while setting up", x.legal(-1), BAD);
        Arbiter two = Boards.game("k7/8/1K6/8/8/7p/8/8 b - -");
        Due.due("legal(0) of 2", two.legal(0), 23 + 64 * 15);
        Due.due("legal(1) of 2", two.legal(1), 56 + 64 * 57);
        Due.due("legal(2) of 2", two.legal(2), BAD);
    }

    private static void squaresOfAttackers() {
        Arbiter x = new Arbiter();
        for (int square : Numbers.outside(0, 63)) {
            Due.due("attackers(" + square + ", 0)", x.attackers(square, 0), BAD);
            Due.due("attackers(" + square + ", 1)", x.attackers(square, 1), BAD);
        }
        Due.due("attackers(1, 0)", x.attackers(1, 0), 1);
        Due.due("attackers(62, 1)", x.attackers(62, 1), 1);
        x.clear();
        for (int square : Numbers.outside(0, 63)) {
            Due.due("setting up: attackers(" + square + ", 0)", x.attackers(square, 0), BAD);
        }
        x.put(1, 4);
        x.put(62, 12);
        Due.due("attackers(0, 0)", x.attackers(0, 0), 1);
        Due.due("attackers(63, 1)", x.attackers(63, 1), 1);
    }

    private static void sidesOfAttackers() {
        Arbiter x = new Arbiter();
        for (int side : Numbers.outside(0, 1)) {
            Due.due("attackers(0, " + side + ")", x.attackers(0, side), BAD);
            Due.due("attackers(45, " + side + ")", x.attackers(45, side), BAD);
            Due.due("attackers(-1, " + side + ")", x.attackers(-1, side), BAD);
        }
        x.clear();
        for (int side : Numbers.outside(0, 1)) {
            Due.due("setting up: attackers(63, " + side + ")", x.attackers(63, side), BAD);
        }
    }

    private static void depthOfSearch() {
        Arbiter x = new Arbiter();
        Boards.playAll(x, "e2e4 d7d5");
        for (int depth : Numbers.outside(0, 2)) {
            Due.due("search(" + depth + ")", x.search(depth), -10000);
        }
        Due.due("search(0)", x.search(0), 0);
        Due.due("search(1)", x.search(1), 1);
        Due.due("search(2)", x.search(2), 0);
        x.clear();
        for (int depth : Numbers.outside(0, 2)) {
            Due.due("setting up: search(" + depth + ")", x.search(depth), -10000);
        }
        for (int depth = 0; depth <= 2; depth++) {
            Due.due("setting up: search(" + depth + ")", x.search(depth), -10000);
        }
    }
}
