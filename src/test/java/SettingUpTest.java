/** Promises 1 to 5 and 8: a new object, standard, clear, put, start, piece. */
public final class SettingUpTest {
    private static final int[] FIRST_RANK = {4, 2, 3, 5, 6, 3, 2, 4};

    public static void main(String[] args) {
        promise1NewObject();
        promise2Standard();
        promise3Clear();
        promise4Put();
        promise4PutRefuses();
        promise5StartBad();
        promise5StartMen();
        promise5StartPawns();
        promise5StartCheck();
        promise5StartRights();
        promise5StartPassant();
        promise5Order();
        promise8Piece();
        Due.finish();
    }

    private static void standardStands(String when, MateArbiter x) {
        for (int file = 0; file < 8; file++) {
            Due.due(when + ": piece(" + file + ")", x.piece(file), FIRST_RANK[file]);
            Due.due(when + ": piece(" + (file + 8) + ")", x.piece(file + 8), 1);
            Due.due(when + ": piece(" + (file + 48) + ")", x.piece(file + 48), 9);
            Due.due(when + ": piece(" + (file + 56) + ")", x.piece(file + 56), FIRST_RANK[file] + 8);
        }
        for (int square = 16; square < 48; square++) {
            Due.due(when + ": piece(" + square + ")", x.piece(square), 0);
        }
        Due.due(when + ": side", x.side(), 0);
        Due.due(when + ": rights", x.rights(), 15);
        Due.due(when + ": passant", x.passant(), MateArbiter.BAD);
        Due.due(when + ": plies", x.plies(), 0);
        Due.due(when + ": clock", x.clock(), 0);
        Due.due(when + ": moves", x.moves(), 20);
        Due.due(when + ": back", x.back(), false);
        Due.due(when + ": put", x.put(20, 1), false);
    }

    private static void promise1NewObject() {
        standardStands("new", new MateArbiter());
        MateArbiter first = new MateArbiter();
        MateArbiter second = new MateArbiter();
        first.move(12, 28, 0);
        Due.due("two objects share nothing", second.piece(28), 0);
    }

    private static void promise2Standard() {
        MateArbiter x = new MateArbiter();
        Boards.playAll(x, "g1f3 g8f6 f3g1 f6g8 g1f3 g8f6 f3g1 f6g8");
        Due.due("three times", x.claims(), 1);
        x.standard();
        standardStands("standard in a game", x);
        Due.due("earlier games do not count", x.claims(), 0);
        Boards.playAll(x, "g1f3 g8f6 f3g1 f6g8");
        Due.due("twice in this game", x.claims(), 0);
        x.clear();
        x.put(30, 5);
        x.standard();
        standardStands("standard while setting up", x);
        MateArbiter after = Boards.game("4k3/8/8/8/8/8/8/4K2R b K -");
        after.standard();
        standardStands("standard after another game", after);
    }

    private static void promise3Clear() {
        MateArbiter x = new MateArbiter();
        Boards.playAll(x, "e2e4 e7e5");
        x.clear();
        noGame("clear in a game", x);
        for (int square = 0; square < 64; square++) {
            Due.due("clear: piece(" + square + ")", x.piece(square), 0);
        }
        x.put(5, 5);
        x.clear();
        Due.due("clear while setting up", x.piece(5), 0);
        noGame("clear while setting up", x);
    }

    private static void noGame(String when, MateArbiter x) {
        Due.due(when + ": side", x.side(), -1);
        Due.due(when + ": rights", x.rights(), -1);
        Due.due(when + ": passant", x.passant(), -1);
        Due.due(when + ": moves", x.moves(), 0);
        Due.due(when + ": legal", x.legal(0), -1);
        Due.due(when + ": check", x.check(), false);
        Due.due(when + ": verdict", x.verdict(), 0);
        Due.due(when + ": claims", x.claims(), 0);
        Due.due(when + ": clock", x.clock(), 0);
        Due.due(when + ": plies", x.plies(), 0);
        Due.due(when + ": search(0)", x.search(0), -10000);
        Due.due(when + ": search(1)", x.search(1), -10000);
        Due.due(when + ": search(2)", x.search(2), -10000);
        Due.due(when + ": move", x.move(12, 28, 0), -1);
        Due.due(when + ": back", x.back(), false);
    }

    private static void promise4Put() {
        MateArbiter x = new MateArbiter();
        x.clear();
        for (int piece = 0; piece <= 14; piece++) {
            boolean isPiece = piece != 7 && piece != 8;
            Due.due("put(20, " + piece + ")", x.put(20, piece), isPiece);
            Due.due("after put(20, " + piece + ")", x.piece(20), isPiece ? piece : piece == 8 || piece == 7 ? 6 : 0);
        }
        Due.due("put(0, 4)", x.put(0, 4), true);
        Due.due("put(63, 12)", x.put(63, 12), true);
        Due.due("piece(0)", x.piece(0), 4);
        Due.due("piece(63)", x.piece(63), 12);
        Due.due("put(0, 0)", x.put(0, 0), true);
        Due.due("piece(0) emptied", x.piece(0), 0);
        Due.due("put(0, 0) on nothing", x.put(0, 0), true);
    }

    private static void promise4PutRefuses() {
        MateArbiter x = new MateArbiter();
        Due.due("put in a game", x.put(20, 1), false);
        Due.due("after put in a game", x.piece(20), 0);
        Boards.playAll(x, "f2f3 e7e5 g2g4 d8h4");
        Due.due("put after mate", x.put(20, 1), false);
        x.clear();
        int[] squares = {-1, 64, 65, -64, 100000, Integer.MIN_VALUE, Integer.MAX_VALUE};
        for (int square : squares) {
            Due.due("put(" + square + ", 1)", x.put(square, 1), false);
        }
        int[] pieces = {-1, 7, 8, 15, 16, 17, -8, -7, 22, Integer.MIN_VALUE, Integer.MAX_VALUE};
        x.put(20, 3);
        for (int piece : pieces) {
            Due.due("put(20, " + piece + ")", x.put(20, piece), false);
            Due.due("piece(20) after it", x.piece(20), 3);
        }
        x.put(4, 6);
        x.put(60, 14);
        x.start(0, 0, -1);
        Due.due("put after start", x.put(30, 1), false);
    }

    private static void promise5StartBad() {
        MateArbiter x = new MateArbiter();
        Due.due("start in a game", x.start(0, 15, -1), MateArbiter.BAD);
        x.clear();
        Boards.fill(x, "4k3/8/8/8/8/8/8/4K3 w - -");
        int[] sides = {-1, 2, 8, Integer.MIN_VALUE, Integer.MAX_VALUE};
        for (int side : sides) {
            Due.due("start(" + side + ", 0, -1)", x.start(side, 0, -1), MateArbiter.BAD);
        }
        int[] rights = {-1, 16, 32, Integer.MIN_VALUE, Integer.MAX_VALUE};
        for (int right : rights) {
            Due.due("start(0, " + right + ", -1)", x.start(0, right, -1), MateArbiter.BAD);
        }
        int[] squares = {-2, 64, Integer.MIN_VALUE, Integer.MAX_VALUE};
        for (int square : squares) {
            Due.due("start(0, 0, " + square + ")", x.start(0, 0, square), MateArbiter.BAD);
        }
        Due.due("still setting up", x.side(), -1);
        Due.due("start(1, 0, -1)", x.start(1, 0, -1), 0);
        Due.due("side", x.side(), 1);
        Due.due("start again", x.start(1, 0, -1), MateArbiter.BAD);
    }

    private static void starts(String fen, int want) {
        MateArbiter x = Boards.pieces(fen);
        Due.due("start of " + fen, Boards.start(x, fen), want);
        if (want != 0) {
            noGame("refused " + fen, x);
        }
    }

    private static void promise5StartMen() {
        starts("8/8/8/8/8/8/8/8 w - -", MateArbiter.MEN);
        starts("8/8/8/8/8/8/8/4K3 w - -", MateArbiter.MEN);
        starts("4k3/8/8/8/8/8/8/8 w - -", MateArbiter.MEN);
        starts("4k3/8/8/8/8/8/8/K3K3 w - -", MateArbiter.MEN);
        starts("k3k3/8/8/8/8/8/8/4K3 b - -", MateArbiter.MEN);
        starts("4k3/8/8/8/PPPPPPPP/8/NNNNNNN1/4K3 w - -", 0);
        starts("4k3/8/8/8/PPPPPPPP/8/NNNNNNNN/4K3 w - -", MateArbiter.MEN);
        starts("4k3/nnnnnnn1/8/pppppppp/8/8/8/4K3 b - -", 0);
        starts("4k3/nnnnnnnn/8/pppppppp/8/8/8/4K3 b - -", MateArbiter.MEN);
        starts("4k3/8/pppppppp/PPPPPPPP/8/8/8/4K3 b - -", 0);
    }

    private static void promise5StartPawns() {
        starts("4k3/8/8/8/8/8/8/P3K3 w - -", MateArbiter.PAWNS);
        starts("4k2P/8/8/8/8/8/8/4K3 w - -", MateArbiter.PAWNS);
        starts("p3k3/8/8/8/8/8/8/4K3 w - -", MateArbiter.PAWNS);
        starts("4k3/8/8/8/8/8/8/4K2p w - -", MateArbiter.PAWNS);
        starts("4k3/P6p/8/8/8/8/p6P/4K3 w - -", 0);
    }

    private static void promise5StartCheck() {
        starts("4k3/8/8/8/8/8/4R3/4K3 w - -", MateArbiter.CHECK);
        starts("4k3/8/8/8/8/8/4R3/4K3 b - -", 0);
        starts("4k3/4r3/8/8/8/8/8/4K3 b - -", MateArbiter.CHECK);
        starts("4k3/4r3/8/8/8/8/8/4K3 w - -", 0);
        starts("8/8/8/3kK3/8/8/8/8 w - -", MateArbiter.CHECK);
        starts("8/8/8/3kK3/8/8/8/8 b - -", MateArbiter.CHECK);
        starts("4k3/3P4/8/8/8/8/8/4K3 w - -", MateArbiter.CHECK);
        starts("4k3/8/8/8/8/8/3p4/4K3 b - -", MateArbiter.CHECK);
        starts("4k3/8/8/8/8/8/8/3pK3 b - -", MateArbiter.PAWNS);
    }

    private static void promise5StartRights() {
        starts("r3k2r/8/8/8/8/8/8/R3K2R w KQkq -", 0);
        starts("r3k2r/8/8/8/8/8/8/R3K3 w K -", MateArbiter.RIGHTS);
        starts("r3k2r/8/8/8/8/8/8/4K2R w Q -", MateArbiter.RIGHTS);
        starts("r3k3/8/8/8/8/8/8/R3K2R w k -", MateArbiter.RIGHTS);
        starts("4k2r/8/8/8/8/8/8/R3K2R w q -", MateArbiter.RIGHTS);
        starts("r3k2r/8/8/8/8/8/8/R2K3R w K -", MateArbiter.RIGHTS);
        starts("r3k2r/8/8/8/8/8/8/R2K3R w Q -", MateArbiter.RIGHTS);
        starts("r2k3r/8/8/8/8/8/8/R3K2R w k -", MateArbiter.RIGHTS);
        starts("r2k3r/8/8/8/8/8/8/R3K2R w q -", MateArbiter.RIGHTS);
        starts("4k3/8/8/8/8/8/8/R3K2B w K -", MateArbiter.RIGHTS);
        starts("4k3/8/4p3/8/8/4P3/8/4K2r b K -", MateArbiter.CHECK);
        starts("4k2R/8/8/8/8/8/8/4K3 b k -", MateArbiter.RIGHTS);
        starts("r3k2r/8/8/8/8/8/8/2K5 w kq -", 0);
        for (int rights = 0; rights < 16; rights++) {
            MateArbiter x = Boards.pieces("r3k2r/8/8/8/8/8/8/R3K2R");
            Due.due("start(0, " + rights + ", -1)", x.start(0, rights, -1), 0);
            Due.due("rights()", x.rights(), rights);
        }
    }

    private static void promise5StartPassant() {
        starts("4k3/8/8/4p3/8/8/8/4K3 w - e6", 0);
        starts("4k3/8/8/8/4P3/8/8/4K3 b - e3", 0);
        starts("4k3/8/8/4p3/8/8/8/4K3 b - e6", MateArbiter.PASSANT);
        starts("4k3/8/8/8/4P3/8/8/4K3 w - e3", MateArbiter.PASSANT);
        starts("4k3/8/8/4P3/8/8/8/4K3 w - e6", MateArbiter.PASSANT);
        starts("4k3/8/8/8/4p3/8/8/4K3 b - e3", MateArbiter.PASSANT);
        starts("4k3/8/8/4n3/8/8/8/4K3 w - e6", MateArbiter.PASSANT);
        starts("4k3/8/4n3/4p3/8/8/8/4K3 w - e6", MateArbiter.PASSANT);
        starts("4k3/4n3/8/4p3/8/8/8/4K3 w - e6", MateArbiter.PASSANT);
        starts("4k3/8/8/8/4P3/4N3/8/4K3 b - e3", MateArbiter.PASSANT);
        starts("4k3/8/8/8/4P3/8/4N3/4K3 b - e3", MateArbiter.PASSANT);
        starts("4k3/8/8/4p3/8/8/8/4K3 w - d6", MateArbiter.PASSANT);
        starts("4k3/8/8/8/8/8/4p3/4K3 w - e3", MateArbiter.PASSANT);
        starts("4k3/4P3/8/8/8/8/8/4K3 b - e6", MateArbiter.PASSANT);
        starts("4k3/8/8/7p/8/8/8/4K3 w - h6", 0);
        starts("4k3/8/8/8/P7/8/8/4K3 b - a3", 0);
        for (int passant = 0; passant < 64; passant++) {
            MateArbiter x = Boards.pieces("4k3/8/8/4p3/8/8/8/4K3");
            Due.due("start(0, 0, " + passant + ")", x.start(0, 0, passant), passant == 44 ? 0 : MateArbiter.PASSANT);
            Due.due("passant()", x.passant(), passant == 44 ? 44 : -1);
        }
    }

    private static void promise5Order() {
        MateArbiter x = Boards.pieces("4k2P/8/8/8/8/8/4R3/K3K3");
        Due.due("BAD before MEN", x.start(0, 16, 50), MateArbiter.BAD);
        Due.due("MEN before PAWNS", x.start(0, 15, 50), MateArbiter.MEN);
        x.put(0, 0);
        Due.due("PAWNS before CHECK", x.start(0, 15, 50), MateArbiter.PAWNS);
        x.put(63, 0);
        Due.due("CHECK before RIGHTS", x.start(0, 15, 50), MateArbiter.CHECK);
        x.put(12, 0);
        Due.due("RIGHTS before PASSANT", x.start(0, 15, 50), MateArbiter.RIGHTS);
        Due.due("PASSANT last", x.start(0, 0, 50), MateArbiter.PASSANT);
        Due.due("all is well", x.start(0, 0, -1), 0);
    }

    private static void promise8Piece() {
        MateArbiter x = new MateArbiter();
        int[] squares = {-1, 64, 128, Integer.MIN_VALUE, Integer.MAX_VALUE};
        for (int square : squares) {
            Due.due("piece(" + square + ")", x.piece(square), MateArbiter.BAD);
        }
        x.clear();
        for (int square : squares) {
            Due.due("setting up: piece(" + square + ")", x.piece(square), MateArbiter.BAD);
        }
        x.put(0, 4);
        x.put(63, 14);
        Due.due("piece(0)", x.piece(0), 4);
        Due.due("piece(63)", x.piece(63), 14);
    }
}
