/** Promises 1 to 5 and 8: a new object, standard, clear, put, start, piece. */
public final class SettingUpTest {
    private static final int[] FIRST_RANK = {4, 2, 3, 5, 6, 3, 2, 4};

    public static void main(String[] args) {
        promise1NewObject();
        promise2Standard();
        promise3Clear();
        promise4Put();
        promise4PutRefuses();
        promise5StartBad();
        promise5StartMen();
        promise5StartKings();
        promise5StartPawns();
        promise5StartCheck();
        promise5StartRights();
        promise5StartPassant();
        promise8Piece();
        Due.finish();
    }

    private static void standardStands(String when, Arbiter x) {
        for (int file = 0; file < 8; file++) {
            Due.due(when + ": piece(" + file + ")", x.piece(file), FIRST_RANK[file]);
            Due.due(when + ": piece(" + (file + 8) + ")", x.piece(file + 8), 1);
            Due.due(when + ": piece(" + (file + 48) + ")", x.piece(file + 48), 9);
            Due.due(when + ": piece(" + (file + 56) + ")", x.piece(file + 56), FIRST_RANK[file] + 8);
        }
        for (int square = 16; square < 48; square++) {
            Due.due(when + ": piece(" + square + ")", x.piece(square), 0);
        }
        Due.due(when + ": side", x.side(), 0);
        Due.due(when + ": rights", x.rights(), 15);
        Due.due(when + ": passant", x.passant(), MateArbiter.BAD);
        Due.due(when + ": plies", x.plies(), 0);
        Due.due(when + ": clock", x.clock(), 0);
        Due.due(when + ": moves", x.moves(), 20);
        Due.due(when + ": back", x.back(), false);
        Due.due(when + ": put", x.put(20, 1), false);
    }

    private static void promise1NewObject() {
        standardStands("new", new Arbiter());
        Arbiter first = new Arbiter();
        Arbiter second = new Arbiter();
        first.move(12, 28, 0);
        Due.due("two objects share nothing", second.piece(28), 0);
    }

    private static void promise2Standard() {
        Arbiter x = new Arbiter();
        Boards.playAll(x, "g1f3 g8f6 f3g1 f6g8 g1f3 g8f6 f3g1 f6g8");
        Due.due("three times", x.claims(), 1);
        x.standard();
        standardStands("standard in a game", x);
        Due.due("earlier games do not count", x.claims(), 0);
        Boards.playAll(x, "g1f3 g8f6 f3g1 f6g8");
        Due.due("twice in this game", x.claims(), 0);
        x.clear();
        x.put(30, 5);
        x.standard();
        standardStands("standard while setting up", x);
        Arbiter after = Boards.game("4k3/8/8/8/8/8/8/4K2R b K -");
        after.standard();
        standardStands("standard after another game", after);
    }

    private static void promise3Clear() {
        Arbiter x = new Arbiter();
        Boards.playAll(x, "e2e4 e7e5");
        x.clear();
        noGame("clear in a game", x);
        for (int square = 0; square < 64; square++) {
            Due.due("clear: piece(" + square + ")", x.piece(square), 0);
        }
        x.put(5, 5);
        x.clear();
        Due.due("clear while setting up", x.piece(5), 0);
        noGame("clear while setting up", x);
    }

    private static void noGame(String when, Arbiter x) {
        Due.due(when + ": side", x.side(), -1);
        Due.due(when + ": rights", x.rights(), -1);
        Due.due(when + ": passant", x.passant(), -1);
        Due.due(when + ": moves", x.moves(), 0);
        Due.due(when + ": legal", x.legal(0), -1);
        Due.due(when + ": check", x.check(), false);
        Due.due(when + ": verdict", x.verdict(), 0);
        Due.due(when + ": claims", x.claims(), 0);
        Due.due(when + ": clock", x.clock(), 0);
        Due.due(when + ": plies", x.plies(), 0);
        Due.due(when + ": search(0)", x.search(0), -10000);
        Due.due(when + ": search(1)", x.search(1), -10000);
        Due.due(when + ": search(2)", x.search(2), -10000);
        Due.due(when + ": move", x.move(12, 28, 0), -1);
        Due.due(when + ": back", x.back(), false);
    }

    private static void promise4Put() {
        Arbiter x = Boards.empty();
        for (int piece = 0; piece <= 14; piece++) {
            boolean isPiece = piece != 7 && piece != 8;
            Due.due("put(20, " + piece + ")", x.put(20, piece), isPiece);
            Due.due("after put(20, " + piece + ")", x.piece(20), isPiece ? piece : piece == 8 || piece == 7 ? 6 : 0);
        }
        Due.due("put(0, 4)", x.put(0, 4), true);
        Due.due("put(63, 12)", x.put(63, 12), true);
        Due.due("piece(0)", x.piece(0), 4);
        Due.due("piece(63)", x.piece(63), 12);
        Due.due("put(0, 0)", x.put(0, 0), true);
        Due.due("piece(0) emptied", x.piece(0), 0);
        Due.due("put(0, 0) on nothing", x.put(0, 0), true);
    }

    private static void promise4PutRefuses() {
        Arbiter x = new Arbiter();
        Due.due("put in a game", x.put(20, 1), false);
        Due.due("after put in a game", x.piece(20), 0);
        Boards.playAll(x, "f2f3 e7e5 g2g4 d8h4");
        Due.due("put after mate", x.put(20, 1), false);
        x.clear();
        x.put(4, 6);
        x.put(60, 14);
        x.start(0, 0, -1);
        Due.due("put after start", x.put(30, 1), false);
    }

    // Numbers out of their ranges: RangeTest.
    private static void promise5StartBad() {
        Arbiter x = new Arbiter();
        Due.due("start in a game", x.start(0, 15, -1), MateArbiter.BAD);
        x.clear();
        Boards.fill(x, "4k3/8/8/8/8/8/8/4K3 w - -");
        Due.due("start(1, 0, -1)", x.start(1, 0, -1), 0);
        Due.due("side", x.side(), 1);
        Due.due("start again", x.start(1, 0, -1), MateArbiter.BAD);
        Due.due("start of the other side", x.start(0, 0, -1), MateArbiter.BAD);
        Due.due("side", x.side(), 1);
    }

    private static void starts(String fen, int want) {
        for (int way = 0; way < Mirror.ways(fen); way++) {
            startsSo(Mirror.fen(fen, way), want);
        }
    }

    private static void startsSo(String fen, int want) {
        Arbiter x = Boards.pieces(fen);
        Due.due("start of " + fen, Boards.start(x, fen), want);
        if (want != 0) {
            noGame("refused " + fen, x);
        }
    }

    private static void promise5StartMen() {
        starts("8/8/8/8/8/8/8/8 w - -", MateArbiter.MEN);
        starts("8/8/8/8/8/8/8/4K3 w - -", MateArbiter.MEN);
        starts("4k3/8/8/8/8/8/8/8 w - -", MateArbiter.MEN);
        starts("4k3/8/8/8/8/8/8/K3K3 w - -", MateArbiter.MEN);
        starts("k3k3/8/8/8/8/8/8/4K3 b - -", MateArbiter.MEN);
        starts("4k3/8/8/8/PPPPPPPP/8/NNNNNNN1/4K3 w - -", 0);
        starts("4k3/8/8/8/PPPPPPPP/8/NNNNNNNN/4K3 w - -", MateArbiter.MEN);
        starts("4k3/nnnnnnn1/8/pppppppp/8/8/8/4K3 b - -", 0);
        starts("4k3/nnnnnnnn/8/pppppppp/8/8/8/4K3 b - -", MateArbiter.MEN);
        starts("4k3/8/pppppppp/PPPPPPPP/8/8/8/4K3 b - -", 0);
        for (int piece = 1; piece <= 5; piece++) {
            for (int side = 0; side < 2; side++) {
                startsWithMen(side, piece + 8 * side, 15, 0);
                startsWithMen(side, piece + 8 * side, 16, MateArbiter.MEN);
                startsWithMen(side, piece + 8 * side, 17, MateArbiter.MEN);
            }
        }
    }

    // The side with the many is not to move, so its attacks on the other king are no fault.
    private static void startsWithMen(int side, int piece, int beside, int want) {
        Arbiter x = Boards.pieces("4k3/8/8/8/8/8/8/4K3");
        for (int i = 0; i < beside; i++) {
            x.put(16 + i, piece);
        }
        Due.due(beside + " times " + piece + " beside the king", x.start(1 - side, 0, -1), want);
    }

    private static void promise5StartKings() {
        int[] white = {4, 14, 31};
        int[] black = {60, 49, 39};
        for (int whites = 0; whites <= 3; whites++) {
            for (int blacks = 0; blacks <= 3; blacks++) {
                Arbiter x = Boards.empty();
                for (int i = 0; i < 3; i++) {
                    x.put(white[i], i < whites ? 6 : 0);
                    x.put(black[i], i < blacks ? 14 : 0);
                }
                int want = whites == 1 && blacks == 1 ? 0 : MateArbiter.MEN;
                Due.due(whites + " white kings, " + blacks + " black", x.start(0, 0, -1), want);
            }
        }
    }

    private static void promise5StartPawns() {
        for (int file = 0; file < 8; file++) {
            for (int pawn = 1; pawn <= 9; pawn += 8) {
                startsWithPawn(file, pawn, MateArbiter.PAWNS);
                startsWithPawn(56 + file, pawn, MateArbiter.PAWNS);
                startsWithPawn(8 + file, pawn, 0);
                startsWithPawn(48 + file, pawn, 0);
            }
        }
    }

    // The kings stand where no pawn of the outer four ranks attacks them.
    private static void startsWithPawn(int square, int pawn, int want) {
        Arbiter x = Boards.pieces("8/8/8/k7/7K/8/8/8");
        x.put(square, pawn);
        Due.due("pawn " + pawn + " on " + square, x.start(0, 0, -1), want);
    }

    private static void promise5StartCheck() {
        starts("4k3/8/8/8/8/8/4R3/4K3 w - -", MateArbiter.CHECK);
        starts("4k3/8/8/8/8/8/4R3/4K3 b - -", 0);
        starts("4k3/4r3/8/8/8/8/8/4K3 b - -", MateArbiter.CHECK);
        starts("4k3/4r3/8/8/8/8/8/4K3 w - -", 0);
        starts("8/8/8/3kK3/8/8/8/8 w - -", MateArbiter.CHECK);
        starts("8/8/8/3kK3/8/8/8/8 b - -", MateArbiter.CHECK);
        starts("4k3/3P4/8/8/8/8/8/4K3 w - -", MateArbiter.CHECK);
        starts("4k3/8/8/8/8/8/3p4/4K3 b - -", MateArbiter.CHECK);
        starts("4k3/8/8/8/8/8/8/3pK3 b - -", MateArbiter.PAWNS);
    }

    private static void promise5StartRights() {
        starts("r3k2r/8/8/8/8/8/8/R3K2R w KQkq -", 0);
        starts("r3k2r/8/8/8/8/8/8/R3K3 w K -", MateArbiter.RIGHTS);
        starts("r3k2r/8/8/8/8/8/8/4K2R w Q -", MateArbiter.RIGHTS);
        starts("r3k3/8/8/8/8/8/8/R3K2R w k -", MateArbiter.RIGHTS);
        starts("4k2r/8/8/8/8/8/8/R3K2R w q -", MateArbiter.RIGHTS);
        starts("r3k2r/8/8/8/8/8/8/R2K3R w K -", MateArbiter.RIGHTS);
        starts("r3k2r/8/8/8/8/8/8/R2K3R w Q -", MateArbiter.RIGHTS);
        starts("r2k3r/8/8/8/8/8/8/R3K2R w k -", MateArbiter.RIGHTS);
        starts("r2k3r/8/8/8/8/8/8/R3K2R w q -", MateArbiter.RIGHTS);
        starts("4k3/8/8/8/8/8/8/R3K2B w K -", MateArbiter.RIGHTS);
        starts("4k3/8/4p3/8/8/4P3/8/4K2r b K -", MateArbiter.CHECK);
        starts("4k2R/8/8/8/8/8/8/4K3 b k -", MateArbiter.RIGHTS);
        starts("r3k2r/8/8/8/8/8/8/2K5 w kq -", 0);
        for (int right = 0; right < 4; right++) {
            otherKingHolds(right);
            for (int piece = 0; piece <= 13; piece++) {
                if (piece != 7 && piece != 8 && piece % 8 != 1 && piece % 8 != 6) {
                    cornerHolds(right, piece);
                    kingsSquareHolds(right, piece);
                }
            }
        }
    }

    private static void cornerHolds(int right, int piece) {
        int[] corners = {7, 0, 63, 56};
        int side = right / 2;
        Arbiter x = Boards.pieces("4k3/8/8/8/8/8/8/4K3");
        x.put(corners[right], piece);
        int want = piece == 4 + 8 * side ? 0 : MateArbiter.RIGHTS;
        Due.due(piece + " on " + corners[right] + ", right " + right, x.start(side, 1 << right, -1), want);
    }

    private static void kingsSquareHolds(int right, int piece) {
        int[] corners = {7, 0, 63, 56};
        int side = right / 2;
        Arbiter x = Boards.empty();
        x.put(side == 0 ? 20 : 44, 6 + 8 * side);
        x.put(side == 0 ? 57 : 1, 14 - 8 * side);
        x.put(corners[right], 4 + 8 * side);
        x.put(side == 0 ? 4 : 60, piece);
        String what = piece + " on the king's square, right " + right;
        Due.due(what, x.start(side, 1 << right, -1), MateArbiter.RIGHTS);
        Due.due(what + " is not asked for", x.start(side, 0, -1), 0);
    }

    // The side whose king stands on the other's square is to move: it may be in check.
    private static void otherKingHolds(int right) {
        int[] corners = {7, 0, 63, 56};
        int side = right / 2;
        Arbiter x = Boards.empty();
        x.put(side == 0 ? 4 : 60, 14 - 8 * side);
        x.put(side == 0 ? 36 : 28, 6 + 8 * side);
        x.put(corners[right], 4 + 8 * side);
        String what = "the other king on the king's square, right " + right;
        Due.due(what, x.start(1 - side, 1 << right, -1), MateArbiter.RIGHTS);
        Due.due(what + " is not asked for", x.start(1 - side, 0, -1), 0);
    }

    private static void promise5StartPassant() {
        starts("4k3/8/8/4p3/8/8/8/4K3 w - e6", 0);
        starts("4k3/8/8/8/4P3/8/8/4K3 b - e3", 0);
        starts("4k3/8/8/4p3/8/8/8/4K3 b - e6", MateArbiter.PASSANT);
        starts("4k3/8/8/8/4P3/8/8/4K3 w - e3", MateArbiter.PASSANT);
        starts("4k3/8/8/4P3/8/8/8/4K3 w - e6", MateArbiter.PASSANT);
        starts("4k3/8/8/8/4p3/8/8/4K3 b - e3", MateArbiter.PASSANT);
        starts("4k3/8/8/4n3/8/8/8/4K3 w - e6", MateArbiter.PASSANT);
        starts("4k3/8/4n3/4p3/8/8/8/4K3 w - e6", MateArbiter.PASSANT);
        starts("4k3/4n3/8/4p3/8/8/8/4K3 w - e6", MateArbiter.PASSANT);
        starts("4k3/8/8/8/4P3/4N3/8/4K3 b - e3", MateArbiter.PASSANT);
        starts("4k3/8/8/8/4P3/8/4N3/4K3 b - e3", MateArbiter.PASSANT);
        starts("4k3/8/8/4p3/8/8/8/4K3 w - d6", MateArbiter.PASSANT);
        starts("4k3/8/8/8/8/8/4p3/4K3 w - e3", MateArbiter.PASSANT);
        starts("4k3/4P3/8/8/8/8/8/4K3 b - e6", MateArbiter.PASSANT);
        for (int piece = 1; piece <= 13; piece++) {
            if (piece != 6 && piece != 7 && piece != 8) {
                passantAmong(0, piece);
                passantAmong(1, piece);
            }
        }
        for (int king = 6; king <= 14; king += 8) {
            passantAtKing(0, 43, 35, king);
            passantAtKing(1, 19, 27, king);
        }
    }

    // One king stands on the passant square or ahead of it, the other one far away.
    private static void passantAtKing(int side, int passant, int pawn, int king) {
        for (int far = 0; far <= 2; far++) {
            Arbiter x = Boards.empty();
            x.put(passant + far * (passant - pawn), king);
            x.put(far == 2 ? 32 : 39, 20 - king);
            x.put(pawn, 9 - 8 * side);
            int want = far < 2 ? MateArbiter.PASSANT : 0;
            Due.due("king " + king + ", " + far + " squares ahead", x.start(side, 0, passant), want);
        }
    }

    // Pawns on file 3; from there no piece attacks the king that waits.
    private static void passantAmong(int side, int piece) {
        int passant = side == 0 ? 43 : 19;
        int ahead = side == 0 ? 8 : -8;
        int pawn = side == 0 ? 9 : 1;
        int stepped = passant - ahead;
        String what = "side " + side + ", " + piece;
        startsAmong(what + " behind", side, passant, stepped, piece, piece == pawn ? 0 : MateArbiter.PASSANT);
        startsAmong(what + " there", side, passant, passant, piece, MateArbiter.PASSANT);
        startsAmong(what + " ahead", side, passant, passant + ahead, piece, MateArbiter.PASSANT);
        startsAmong(what + " before the pawn", side, passant, stepped - ahead, piece, 0);
        startsAmong(what + " beyond", side, passant, passant + 2 * ahead, piece, piece % 8 == 1 ? MateArbiter.PAWNS : 0);
        startsAmong(what + " beside", side, passant, passant + 1, piece, 0);
    }

    private static void startsAmong(String what, int side, int passant, int square, int piece, int want) {
        Arbiter x = Boards.empty();
        x.put(side == 0 ? 8 : 48, 6 + 8 * side);
        x.put(side == 0 ? 5 : 61, 14 - 8 * side);
        x.put(passant - (side == 0 ? 8 : -8), side == 0 ? 9 : 1);
        x.put(square, piece);
        Due.due(what, x.start(side, 0, passant), want);
    }

    private static void promise8Piece() {
        Arbiter x = new Arbiter();
        Boards.playAll(x, "e2e4");
        Due.due("left", x.piece(12), 0);
        Due.due("arrived", x.piece(28), 1);
        x.back();
        Due.due("back", x.piece(12), 1);
        Due.due("empty again", x.piece(28), 0);
        x.clear();
        x.put(0, 4);
        x.put(63, 14);
        Due.due("piece(0)", x.piece(0), 4);
        Due.due("piece(63)", x.piece(63), 14);
    }
}
