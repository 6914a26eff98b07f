/** Promises 6, 7, 9 to 13, 18 and 19: move, back, side, rights, passant, moves, legal, clock, plies. */
public final class MovingTest {
    public static void main(String[] args) {
        promise6Pieces();
        promise6Pawns();
        promise6PawnsBeforePieces();
        promise6Promotion();
        promise6Passant();
        promise6PassantIsForPawns();
        promise6Castling();
        promise6CastlingRefused();
        promise6CastlingOverPieces();
        promise6Pins();
        promise6Refuses();
        promise7Back();
        promise7BackAfterTheEnd();
        promise9Side();
        promise10Rights();
        promise11Passant();
        promise12Moves();
        promise13Legal();
        promise18Clock();
        promise18EveryTaking();
        promise19Plies();
        Due.finish();
    }

    private static void plays(String fen, String move, int want) {
        for (int way = 0; way < Mirror.ways(fen); way++) {
            playsSo(Mirror.fen(fen, way), Mirror.moves(move, way), want);
        }
    }

    private static void playsSo(String fen, String move, int want) {
        Arbiter x = Boards.game(fen);
        String before = Boards.state(x);
        Due.due(fen + " lists " + move, Boards.lists(x, move), want == 0);
        Due.due(fen + " plays " + move, Boards.play(x, move), want);
        if (want != 0) {
            Due.due(fen + " unchanged by " + move, Boards.state(x).equals(before), true);
        }
    }

    private static void promise6Pieces() {
        String riders = "k7/8/8/1p1P4/8/1Q1R1B2/8/7K w - -";
        plays(riders, "d3d4", 0);
        plays(riders, "d3d5", -1);
        plays(riders, "d3e3", 0);
        plays(riders, "d3f3", -1);
        plays(riders, "d3b3", -1);
        plays(riders, "d3e4", -1);
        plays(riders, "b3b5", 0);
        plays(riders, "b3b6", -1);
        plays(riders, "b3c4", 0);
        plays(riders, "b3d5", -1);
        plays(riders, "b3c5", -1);
        plays(riders, "f3e4", 0);
        plays(riders, "f3f4", -1);
        plays(riders, "f3a8", -1);
        plays(riders, "h1g1", 0);
        plays(riders, "h1h3", -1);
        plays(riders, "h1a2", -1);
        plays("k7/7p/8/8/8/8/8/N6K w - -", "a1b3", 0);
        plays("k7/7p/8/8/8/8/8/N6K w - -", "a1c2", 0);
        plays("k7/7p/8/8/8/8/8/N6K w - -", "a1b2", -1);
        plays("k7/7p/8/8/8/8/8/K6N w - -", "h1g3", 0);
        plays("k7/7p/8/8/8/8/8/K6N w - -", "h1b2", -1);
        plays("7k/8/8/8/8/8/8/KR6 w - -", "b1a2", -1);
        plays("7k/8/8/8/8/8/7p/K5R1 b - -", "h2g1q", 0);
    }

    private static void promise6Pawns() {
        String both = "k7/p6p/8/3Pp3/3pP3/8/P6P/K7";
        plays(both + " w - -", "a2a3", 0);
        plays(both + " w - -", "a2a4", 0);
        plays(both + " w - -", "a2a5", -1);
        plays(both + " w - -", "a2b3", -1);
        plays(both + " w - -", "h2h4", 0);
        plays(both + " w - -", "d5d6", 0);
        plays(both + " w - -", "d5d7", -1);
        plays(both + " w - -", "d5d4", -1);
        plays(both + " w - -", "e4e5", -1);
        plays(both + " w - -", "d5e6", -1);
        plays(both + " w - e6", "d5e6", 0);
        plays(both + " b - -", "a7a5", 0);
        plays(both + " b - -", "a7a6", 0);
        plays(both + " b - -", "d4d3", 0);
        plays(both + " b - -", "d4d2", -1);
        plays(both + " b - -", "d4e3", -1);
        plays(both + " b - e3", "d4e3", 0);
        String blocked = "k7/8/8/8/n7/1n5n/PP5P/7K w - -";
        plays(blocked, "a2a3", 0);
        plays(blocked, "a2a4", -1);
        plays(blocked, "h2h4", -1);
        plays(blocked, "h2h3", -1);
        plays(blocked, "a2b3", 0);
        plays("k7/8/8/7n/P7/8/8/K7 w - -", "a4h5", -1);
        plays("k7/8/8/n7/7P/8/8/K7 w - -", "h4a5", -1);
        plays("k7/8/8/8/n7/7P/8/K7 w - -", "h3a4", -1);
        plays("k7/8/8/1N5n/P7/8/8/K7 w - -", "a4b5", -1);
    }

    private static void promise6PawnsBeforePieces() {
        for (int kind = 1; kind <= 5; kind++) {
            for (int other = 0; other <= 8; other += 8) {
                stepsBefore(0, 12, 8, kind + other);
                stepsBefore(1, 52, -8, kind + other);
            }
        }
    }

    // A pawn with a piece one and two ranks ahead; the kings stand where none of it reaches them.
    private static void stepsBefore(int side, int from, int ahead, int piece) {
        for (int far = 1; far <= 2; far++) {
            Arbiter x = Boards.empty();
            x.put(turned(side, 0), 6 + 8 * side);
            x.put(turned(side, 63), 14 - 8 * side);
            x.put(from, 1 + 8 * side);
            x.put(from + far * ahead, piece);
            String what = "side " + side + ", " + piece + " stands " + far + " ahead";
            Due.due(what + ": start", x.start(side, 0, -1), 0);
            Due.due(what + ": two ranks", x.move(from, from + 2 * ahead, 0), -1);
            Due.due(what + ": one rank", x.move(from, from + ahead, 0), far == 1 ? -1 : 0);
        }
    }

    private static void promise6Promotion() {
        String white = "1n5k/P7/8/8/8/8/8/K7 w - -";
        String black = "7k/8/8/8/8/8/p7/1N5K b - -";
        String[] kinds = {"n", "b", "r", "q"};
        for (int i = 0; i < 4; i++) {
            Arbiter x = Boards.game(white);
            Due.due("a7a8" + kinds[i], Boards.play(x, "a7a8" + kinds[i]), 0);
            Due.due("becomes", x.piece(56), i + 2);
            Due.due("leaves", x.piece(48), 0);
            Due.due("back", x.back(), true);
            Due.due("is a pawn again", x.piece(48), 1);
            Due.due("a7b8" + kinds[i], Boards.play(x, "a7b8" + kinds[i]), 0);
            Due.due("becomes", x.piece(57), i + 2);
            Due.due("back", x.back(), true);
            Due.due("knight again", x.piece(57), 10);
            Arbiter y = Boards.game(black);
            Due.due("a2b1" + kinds[i], Boards.play(y, "a2b1" + kinds[i]), 0);
            Due.due("becomes", y.piece(1), i + 10);
            Due.due("back", y.back(), true);
            Due.due("a2a1" + kinds[i], Boards.play(y, "a2a1" + kinds[i]), 0);
            Due.due("becomes", y.piece(0), i + 10);
        }
    }

    private static void promise6Passant() {
        Arbiter x = new Arbiter();
        Boards.playAll(x, "e2e4 a7a6 e4e5 d7d5");
        Due.due("passant", x.passant(), 43);
        Due.due("e5f6", Boards.play(x, "e5f6"), -1);
        Boards.playAll(x, "e5d6");
        Due.due("taken", x.piece(35), 0);
        Due.due("arrived", x.piece(43), 1);
        Due.due("clock", x.clock(), 0);
        x.back();
        Due.due("back where it was", x.piece(35), 9);
        Due.due("passant square empty", x.piece(43), 0);
        Boards.playAll(x, "h2h3 a6a5");
        Due.due("too late", Boards.play(x, "e5d6"), -1);
        Arbiter y = Boards.game("4k3/8/8/8/pPp5/8/8/4K3 b - b3");
        Due.due("a4b3", Boards.lists(y, "a4b3"), true);
        Boards.playAll(y, "c4b3");
        Due.due("taken", y.piece(25), 0);
        Due.due("arrived", y.piece(17), 9);
        plays("4k3/8/8/K2pP2r/8/8/8/8 w - d6", "e5d6", -1);
        plays("4k3/8/8/K2pP3/8/8/8/7r w - d6", "e5d6", 0);
        plays("4k3/8/3K4/2pPp3/8/8/8/8 w - e6", "d6e6", 0);
        plays("8/8/8/2k5/3Pp3/8/8/4K3 b - d3", "e4d3", 0);
        plays("8/8/8/8/k2Pp2R/8/8/4K3 b - d3", "e4d3", -1);
    }

    private static void promise6PassantIsForPawns() {
        entersPassant("4k3/8/8/3p4/8/8/8/6K1", "e4", 2);
        entersPassant("4k3/8/8/3p4/8/8/8/6K1", "b4", 3);
        entersPassant("4k3/8/8/3p4/8/8/8/6K1", "a6", 4);
        entersPassant("4k3/8/8/3p4/8/8/8/6K1", "h6", 5);
        entersPassant("7k/8/8/3p4/8/8/8/8", "c6", 6);
        entersPassant("6k1/8/8/8/3P4/8/8/4K3", "e5", 10);
        entersPassant("6k1/8/8/8/3P4/8/8/4K3", "b5", 11);
        entersPassant("6k1/8/8/8/3P4/8/8/4K3", "a3", 12);
        entersPassant("6k1/8/8/8/3P4/8/8/4K3", "h3", 13);
        entersPassant("8/8/8/8/3P4/8/8/7K", "c3", 14);
    }

    // A piece that is no pawn goes to d6 (white) or d3 (black), and takes nothing.
    private static void entersPassant(String fen, String from, int piece) {
        int side = piece / 8;
        int passant = side == 0 ? 43 : 19;
        int pawn = side == 0 ? 35 : 27;
        Arbiter x = Boards.pieces(fen);
        x.put(Boards.square(from), piece);
        String what = piece + " goes from " + from + " to the passant square";
        Due.due(what + ": start", x.start(side, 0, passant), 0);
        Due.due(what, x.move(Boards.square(from), passant, 0), 0);
        Due.due(what + ": it arrives", x.piece(passant), piece);
        Due.due(what + ": the pawn stays", x.piece(pawn), 9 - 8 * side);
        Due.due(what + ": clock()", x.clock(), 1);
        Due.due(what + ": passant()", x.passant(), -1);
        Due.due(what + ": back()", x.back(), true);
        Due.due(what + ": the pawn is there again", x.piece(pawn), 9 - 8 * side);
        Due.due(what + ": the square is empty again", x.piece(passant), 0);
        Due.due(what + ": passant() again", x.passant(), passant);
    }

    private static void promise6Castling() {
        String open = "r3k2r/8/8/8/8/8/8/R3K2R ";
        castles(open + "w KQkq -", "e1g1", 6, 5, 7);
        castles(open + "w KQkq -", "e1c1", 2, 3, 0);
        castles(open + "b KQkq -", "e8g8", 62, 61, 63);
        castles(open + "b KQkq -", "e8c8", 58, 59, 56);
    }

    private static void castles(String fen, String move, int king, int rook, int corner) {
        Arbiter x = Boards.game(fen);
        int side = x.side();
        String before = Boards.state(x);
        Boards.playAll(x, move);
        Due.due(move + ": king", x.piece(king), 6 + 8 * side);
        Due.due(move + ": rook", x.piece(rook), 4 + 8 * side);
        Due.due(move + ": king's square", x.piece(side == 0 ? 4 : 60), 0);
        Due.due(move + ": rook's square", x.piece(corner), 0);
        Due.due(move + ": rights", x.rights(), side == 0 ? 12 : 3);
        Due.due(move + ": clock", x.clock(), 1);
        Due.due(move + ": passant", x.passant(), -1);
        Due.due(move + ": back", x.back(), true);
        Due.due(move + ": all as before", Boards.state(x).equals(before), true);
    }

    private static void promise6CastlingRefused() {
        plays("4k3/8/8/8/8/8/8/R3K2R w Q -", "e1g1", -1);
        plays("4k3/8/8/8/8/8/8/R3K2R w K -", "e1c1", -1);
        plays("r3k2r/8/8/8/8/8/8/4K3 b q -", "e8g8", -1);
        plays("r3k2r/8/8/8/8/8/8/4K3 b k -", "e8c8", -1);
        plays("4k3/8/8/8/8/8/8/R3KB1R w KQ -", "e1g1", -1);
        plays("4k3/8/8/8/8/8/8/R3K1NR w KQ -", "e1g1", -1);
        plays("4k3/8/8/8/8/8/8/R3K1nR w KQ -", "e1g1", -1);
        plays("4k3/8/8/8/8/8/8/RN2K2R w KQ -", "e1c1", -1);
        plays("4k3/8/8/8/8/8/8/R1B1K2R w KQ -", "e1c1", -1);
        plays("4k3/8/8/8/8/8/8/R2QK2R w KQ -", "e1c1", -1);
        plays("4r3/1k6/8/8/8/8/8/R3K2R w KQ -", "e1g1", -1);
        plays("4r3/1k6/8/8/8/8/8/R3K2R w KQ -", "e1c1", -1);
        plays("5r2/1k6/8/8/8/8/8/R3K2R w KQ -", "e1g1", -1);
        plays("5r2/1k6/8/8/8/8/8/R3K2R w KQ -", "e1c1", 0);
        plays("6r1/1k6/8/8/8/8/8/R3K2R w KQ -", "e1g1", -1);
        plays("7r/1k6/8/8/8/8/8/R3K2R w KQ -", "e1g1", 0);
        plays("3r4/6k1/8/8/8/8/8/R3K2R w KQ -", "e1c1", -1);
        plays("2r5/6k1/8/8/8/8/8/R3K2R w KQ -", "e1c1", -1);
        plays("1r6/6k1/8/8/8/8/8/R3K2R w KQ -", "e1c1", 0);
        plays("r7/6k1/8/8/8/8/8/R3K2R w KQ -", "e1c1", 0);
        plays("4k3/8/8/8/8/8/7p/R3K2R w KQ -", "e1g1", -1);
        plays("4k3/8/8/8/8/8/6p1/R3K2R w KQ -", "e1g1", -1);
        plays("r3k2r/8/8/8/8/8/6K1/5R2 b kq -", "e8g8", -1);
        plays("r3k2r/8/8/8/8/8/6K1/1R6 b kq -", "e8c8", 0);
        plays("r3k2r/8/8/8/8/8/6K1/3R4 b kq -", "e8c8", -1);
        Arbiter x = Boards.game("4k3/8/8/8/8/8/8/R3K2R w KQ -");
        Boards.playAll(x, "h1g1 e8d8 g1h1 d8e8");
        Due.due("the right is gone for good", Boards.play(x, "e1g1"), -1);
        Due.due("the other is there", Boards.play(x, "e1c1"), 0);
        plays("4k3/8/8/8/8/8/8/3K3R w - -", "d1f1", -1);
    }

    // Every piece of both sides on every square between king and rook.
    private static void promise6CastlingOverPieces() {
        int[] shortSquares = {5, 6};
        int[] longSquares = {3, 2, 1};
        for (int side = 0; side < 2; side++) {
            for (int kind = 2; kind <= 5; kind++) {
                for (int other = 0; other <= 8; other += 8) {
                    for (int square : shortSquares) {
                        castlesOver(side, turned(side, square), kind + other, 2);
                    }
                    for (int square : longSquares) {
                        castlesOver(side, turned(side, square), kind + other, -2);
                    }
                }
            }
        }
    }

    private static void castlesOver(int side, int square, int piece, int step) {
        Arbiter x = Boards.empty();
        int king = turned(side, 4);
        x.put(king, 6 + 8 * side);
        x.put(turned(side, 0), 4 + 8 * side);
        x.put(turned(side, 7), 4 + 8 * side);
        x.put(square, piece);
        // The other king goes where it is not in check.
        int far = 48;
        while (far < 56 && x.side() < 0) {
            x.put(turned(side, far), 14 - 8 * side);
            if (x.start(side, 3 << 2 * side, -1) != 0) {
                x.put(turned(side, far), 0);
                far++;
            }
        }
        String what = "side " + side + ", " + piece + " on " + square;
        Due.due(what + ": a game", x.side(), side);
        Due.due(what + ": castling", x.move(king, king + step, 0), -1);
        Due.due(what + ": the other castling", x.move(king, king - step, 0), x.check() ? -1 : 0);
    }

    private static void promise6Pins() {
        plays("k3r3/8/8/8/8/8/4B3/4K3 w - -", "e2d3", -1);
        plays("k3r3/8/8/8/8/8/4R3/4K3 w - -", "e2e5", 0);
        plays("k3r3/8/8/8/8/8/4R3/4K3 w - -", "e2e8", 0);
        plays("k3r3/8/8/8/8/8/8/4K3 w - -", "e1e2", -1);
        plays("k3r3/8/8/8/8/8/8/4K3 w - -", "e1d2", 0);
        plays("k3r3/8/8/8/8/8/P7/4K3 w - -", "a2a3", -1);
        plays("8/8/8/8/8/3k4/P7/3K4 w - -", "d1d2", -1);
        plays("8/8/8/8/8/3k4/P7/3K4 w - -", "d1e1", 0);
        plays("4k3/8/8/8/8/8/3p4/4K3 w - -", "e1d2", 0);
        plays("4k3/8/8/8/8/2b5/3p4/4K3 w - -", "e1d2", -1);
    }

    private static void promise6Refuses() {
        Arbiter x = new Arbiter();
        Due.due("from an empty square", x.move(20, 28, 0), -1);
        Due.due("the other side's pawn", x.move(52, 36, 0), -1);
        Due.due("to the same square", x.move(12, 12, 0), -1);
        Due.due("onto an own piece", x.move(3, 11, 0), -1);
        Due.due("plies", x.plies(), 0);
        Boards.playAll(x, "f2f3 e7e5 g2g4 d8h4");
        Due.due("after mate, not even a move", x.move(-1, 99, 7), MateArbiter.OVER);
        Due.due("after mate", x.move(8, 16, 0), MateArbiter.OVER);
        Due.due("plies", x.plies(), 4);
        x.clear();
        Due.due("setting up", x.move(12, 28, 0), MateArbiter.BAD);
        Arbiter dead = Boards.game("4k3/8/8/8/8/8/8/4K3 w - -");
        Due.due("a dead position", Boards.play(dead, "e1e2"), MateArbiter.OVER);
    }

    private static final String[] EVENTFUL = ("e2e4 d7d5 e4d5 c7c5 d5c6 g8f6 c6b7 f6g8 b7a8q e7e5 f1a6 e5e4 g1h3 "
        + "e4e3 e1g1 e3f2 f1f2 d8d2 f2f7 e8f7 d1d2 b8c6 a8c8").split(" ");

    private static Arbiter eventful(int plies) {
        Arbiter x = new Arbiter();
        for (int i = 0; i < plies; i++) {
            Boards.playAll(x, EVENTFUL[i]);
        }
        return x;
    }

    private static void promise7Back() {
        for (int i = 0; i < EVENTFUL.length; i++) {
            String move = EVENTFUL[i];
            Arbiter x = eventful(i);
            String before = Boards.state(x);
            Boards.playAll(x, move);
            String behind = Boards.state(x);
            Due.due(move + " back", x.back(), true);
            Due.due(move + " taken back", Boards.state(x).equals(before), true);
            Due.due(move + " again", Boards.play(x, move), 0);
            Due.due(move + " stands again", Boards.state(x).equals(behind), true);
            Arbiter y = eventful(EVENTFUL.length);
            Walks.takeBack(y, EVENTFUL.length - i);
            Due.due("all back to " + move, Boards.state(y).equals(before), true);
        }
        Arbiter all = eventful(EVENTFUL.length);
        Walks.takeBack(all, EVENTFUL.length);
        Due.due("no more", all.back(), false);
        Due.due("no more, again", all.back(), false);
        all.clear();
        Due.due("setting up", all.back(), false);
        Arbiter z = Boards.game("4k3/8/8/8/8/8/8/R3K3 w Q -");
        Due.due("start is no move", z.back(), false);
        Arbiter earlier = eventful(5);
        earlier.standard();
        Due.due("the moves of an earlier game are gone", earlier.back(), false);
    }

    private static void promise7BackAfterTheEnd() {
        Arbiter x = new Arbiter();
        Boards.playAll(x, "f2f3 e7e5 g2g4 d8h4");
        Due.due("mate", x.verdict(), 1);
        Due.due("back", x.back(), true);
        Due.due("goes on", x.verdict(), 0);
        Boards.playAll(x, "d8g5");
        Arbiter y = Boards.game("4k3/8/8/8/8/8/3p4/4K3 w - -");
        Boards.playAll(y, "e1d2");
        Due.due("dead", y.verdict(), 3);
        Due.due("back", y.back(), true);
        Due.due("pawn", y.piece(11), 9);
        Arbiter z = new Arbiter();
        Boards.playAll(z, "g1f3 g8f6 f3g1 f6g8 g1f3 g8f6 f3g1 f6g8");
        Due.due("three times", z.claims(), 1);
        z.back();
        z.back();
        Boards.playAll(z, "f3e5 f6g8");
        Due.due("moves taken back do not count", z.claims(), 0);
        z.back();
        z.back();
        Boards.playAll(z, "f3g1 f6g8");
        Due.due("three times again", z.claims(), 1);
        for (int i = 0; i < 6; i++) {
            z.back();
            Boards.play(z, "f6g8");
        }
        Due.due("going to and fro by back counts once", z.claims(), 1);
        Due.due("and ends nothing", z.verdict(), 0);
    }

    private static void promise9Side() {
        Arbiter x = new Arbiter();
        Due.due("side", x.side(), 0);
        Boards.playAll(x, "e2e4");
        Due.due("side after one", x.side(), 1);
        Boards.playAll(x, "e7e5");
        Due.due("side after two", x.side(), 0);
        x.back();
        Due.due("side after back", x.side(), 1);
        Due.due("a refused move", Boards.play(x, "e4e5"), -1);
        Due.due("side after it", x.side(), 1);
        x.clear();
        Due.due("side while setting up", x.side(), -1);
    }

    private static void rightsAfter(String fen, String moves, int want) {
        for (int way = 0; way < Mirror.ways(fen); way++) {
            Arbiter x = Boards.game(Mirror.fen(fen, way));
            Boards.playAll(x, Mirror.moves(moves, way));
            Due.due("rights after " + Mirror.moves(moves, way), x.rights(), Mirror.rights(want, way));
        }
    }

    private static void rightsTouched(int rights, String move, int lost) {
        Arbiter x = Boards.pieces("r3k2r/8/8/8/8/8/8/R3K2R");
        x.start(move.charAt(1) == '1' ? 0 : 1, rights, -1);
        Boards.playAll(x, move);
        Due.due("rights " + rights + " behind " + move, x.rights(), rights & ~lost);
        x.back();
        Due.due("rights " + rights + " again", x.rights(), rights);
    }

    private static void promise10Rights() {
        String open = "r3k2r/8/8/8/8/8/8/R3K2R ";
        rightsAfter(open + "w KQkq -", "e1e2", 12);
        rightsAfter(open + "w KQkq -", "a1b1", 13);
        rightsAfter(open + "w KQkq -", "h1g1", 14);
        rightsAfter(open + "b KQkq -", "e8e7", 3);
        rightsAfter(open + "b KQkq -", "a8b8", 7);
        rightsAfter(open + "b KQkq -", "h8g8", 11);
        rightsAfter(open + "w KQkq -", "a1a8", 5);
        rightsAfter(open + "w KQkq -", "h1h8", 10);
        rightsAfter(open + "b KQkq -", "h8h1", 10);
        rightsAfter(open + "w KQkq -", "e1g1 e8c8", 0);
        rightsAfter("r3k2r/8/4b3/8/8/4B3/8/R3K2R b KQkq -", "e6h3", 15);
        rightsAfter("r3k2r/8/8/3b4/8/8/8/R3K2R b KQkq -", "d5h1", 14);
        rightsAfter("r3k2r/1P6/8/8/8/8/8/R3K2R w KQkq -", "b7a8n", 7);
        rightsAfter(open + "w KQkq -", "h1h7 h8g8 h7h1 g8h8", 10);
        rightsAfter("r3k2r/8/6N1/8/8/8/8/R3K2R w KQkq -", "g6h8", 11);
        rightsAfter("r3k2r/2N5/8/8/8/8/8/R3K2R b KQkq -", "e8d8", 3);
        rightsAfter("r3k2r/8/1N6/8/8/8/8/R3K2R w KQkq -", "b6a8", 7);
        rightsAfter("r3k2r/8/8/8/3B4/8/8/R3K2R w KQkq -", "d4h8", 11);
        rightsAfter("r3k2r/8/8/8/4B3/8/8/R3K2R w KQkq -", "e4a8", 7);
        rightsAfter("r3k2r/8/8/8/3Q4/8/8/R3K2R w KQkq -", "d4h8", 11);
        rightsAfter("r3k2r/8/8/3Q4/8/8/8/R3K2R w KQkq -", "d5a8", 7);
        rightsAfter("r3k2r/6P1/8/8/8/8/8/R3K2R w KQkq -", "g7h8q", 11);
        rightsAfter("r3k2r/6K1/8/8/8/8/8/8 w kq -", "g7h8", 8);
        rightsAfter("r3k2r/1K6/8/8/8/8/8/8 w kq -", "b7a8", 4);
        for (int rights = 0; rights <= 15; rights++) {
            rightsTouched(rights, "e1e2", 3);
            rightsTouched(rights, "h1g1", 1);
            rightsTouched(rights, "a1b1", 2);
            rightsTouched(rights, "e8e7", 12);
            rightsTouched(rights, "h8g8", 4);
            rightsTouched(rights, "a8b8", 8);
            rightsTouched(rights, "h1h8", 5);
            rightsTouched(rights, "a8a1", 10);
        }
        Arbiter x = new Arbiter();
        Boards.playAll(x, "e2e4 e7e5 e1e2 e8e7");
        Due.due("rights", x.rights(), 0);
        x.back();
        Due.due("rights after back", x.rights(), 12);
        x.back();
        Due.due("rights after both", x.rights(), 15);
        x.clear();
        Due.due("rights while setting up", x.rights(), -1);
    }

    private static void promise11Passant() {
        Arbiter x = new Arbiter();
        for (int file = 0; file < 8; file++) {
            Due.due("white's two ranks", x.move(8 + file, 24 + file, 0), 0);
            Due.due("passant", x.passant(), 16 + file);
            Due.due("black's two ranks", x.move(48 + file, 32 + file, 0), 0);
            Due.due("passant", x.passant(), 40 + file);
        }
        Boards.playAll(x, "g1f3");
        Due.due("a knight leaves none", x.passant(), -1);
        x.back();
        Due.due("back again", x.passant(), 47);
        x.standard();
        Boards.playAll(x, "e2e3");
        Due.due("one rank leaves none", x.passant(), -1);
        Boards.playAll(x, "e7e6 e3e4");
        Due.due("two steps leave none", x.passant(), -1);
        Arbiter rook = Boards.game("4k3/8/8/8/8/8/R7/4K3 w - -");
        Boards.playAll(rook, "a2a4");
        Due.due("a rook leaves none", rook.passant(), -1);
        rook.clear();
        Due.due("passant while setting up", rook.passant(), -1);
    }

    private static void movesOf(String fen, int want) {
        for (int way = 0; way < Mirror.ways(fen); way++) {
            Due.due("way " + way + ": moves of " + fen, Boards.game(Mirror.fen(fen, way)).moves(), want);
        }
    }

    private static void promise12Moves() {
        movesOf("R6R/3Q4/1Q4Q1/4Q3/2Q4Q/Q4Q2/pp1Q4/kBNN1KB1 w - -", 218);
        movesOf("1Q4Q1/4Q3/Q1Q4Q/Q4Q1Q/3Q4/KQ4Q1/pp2Q3/krQ4Q w - -", 240);
        movesOf("7k/8/8/8/8/8/8/K7 w - -", 3);
        movesOf("7k/8/8/3N4/8/8/8/K7 w - -", 11);
        movesOf("7k/8/8/3B4/8/8/8/K7 w - -", 16);
        movesOf("7k/8/8/3R4/8/8/8/K7 w - -", 17);
        movesOf("7k/8/8/Q7/8/8/8/K7 w - -", 3 + 20);
        movesOf("r3k2r/8/8/8/8/8/8/R3K2R w KQkq -", 26);
        movesOf("8/2p5/3p4/KP5r/1R3p1k/8/4P1P1/8 w - -", 14);
        movesOf("1n5k/P7/8/8/8/8/8/K7 w - -", 3 + 8);
        Arbiter x = Boards.game("4k3/8/8/8/8/8/8/4K3 w - -");
        Due.due("moves of a dead position", x.moves(), 5);
        Arbiter mate = new Arbiter();
        Boards.playAll(mate, "f2f3 e7e5 g2g4 d8h4");
        Due.due("moves after mate", mate.moves(), 0);
    }

    private static void promise13Legal() {
        String[] fens = {
            "r3k2r/p1ppqpb1/bn2pnp1/3PN3/1p2P3/2N2Q1p/PPPBBPPP/R3K2R w KQkq -",
            "r3k2r/p1ppqpb1/bn2pnp1/3PN3/1p2P3/2N2Q1p/PPPBBPPP/R3K2R b KQkq -",
            "n1n5/PPPk4/8/8/8/8/4Kppp/5N1N b - -",
            "R6R/3Q4/1Q4Q1/4Q3/2Q4Q/Q4Q2/pp1Q4/kBNN1KB1 w - -",
        };
        for (String fen : fens) {
            Arbiter x = Boards.game(fen);
            int count = x.moves();
            long before = -1;
            for (int i = 0; i < count; i++) {
                int code = x.legal(i);
                long key = (code % 64) * 512L + (code / 64 % 64) * 8L + code / 4096;
                Due.due("legal(" + i + ") comes later in " + fen, key > before, true);
                before = key;
            }
            Due.due("legal behind the last", x.legal(count), -1);
        }
        Arbiter x = new Arbiter();
        int[] opening = {1 + 64 * 16, 1 + 64 * 18, 6 + 64 * 21, 6 + 64 * 23, 8 + 64 * 16, 8 + 64 * 24};
        for (int i = 0; i < opening.length; i++) {
            Due.due("legal(" + i + ")", x.legal(i), opening[i]);
        }
        Arbiter y = Boards.game("1n5k/P7/8/8/8/8/8/K7 w - -");
        for (int i = 0; i < 4; i++) {
            Due.due("promotions grow", y.legal(3 + i), 48 + 64 * 56 + 4096 * (2 + i));
            Due.due("promotions grow", y.legal(7 + i), 48 + 64 * 57 + 4096 * (2 + i));
        }
        y.clear();
        Due.due("legal while setting up", y.legal(0), -1);
    }

    private static void promise18Clock() {
        Arbiter x = new Arbiter();
        int[] clocks = {1, 2, 0, 0, 0, 1, 0, 1};
        String[] moves = "g1f3 b8c6 e2e4 d7d5 e4d5 g8f6 d5c6 f6g8".split(" ");
        for (int i = 0; i < moves.length; i++) {
            Boards.playAll(x, moves[i]);
            Due.due("clock after " + moves[i], x.clock(), clocks[i]);
        }
        for (int i = moves.length - 2; i >= 0; i--) {
            x.back();
            Due.due("clock back at " + moves[i], x.clock(), clocks[i]);
        }
        Arbiter y = Boards.game("1n5k/P7/8/8/8/8/8/K7 w - -");
        Due.due("clock at first", y.clock(), 0);
        Boards.playAll(y, "a1a2 h8h7 a7a8q");
        Due.due("promotion", y.clock(), 0);
        Boards.playAll(y, "h7h6 a8b8");
        Due.due("a piece takes", y.clock(), 0);
        Boards.playAll(y, "h6h7");
        y.clear();
        Due.due("clock while setting up", y.clock(), 0);
    }

    // Said for white on d5; for black all ranks and sides are exchanged.
    private static void promise18EveryTaking() {
        int[] from = {26, 20, 17, 3, 3};
        for (int side = 0; side < 2; side++) {
            for (int kind = 1; kind <= 5; kind++) {
                for (int taken = 1; taken <= 5; taken++) {
                    takes(side, from[kind - 1], kind, taken);
                }
            }
            kingTakes(side, 29, 2);
            kingTakes(side, 62, 3);
            kingTakes(side, 3, 4);
            kingTakes(side, 3, 5);
        }
        Arbiter x = Boards.game("7k/8/1K6/3p4/8/8/P7/8 w - -");
        Boards.playAll(x, "b6c6 h8h7");
        Due.due("both kings stepped", x.clock(), 2);
        Boards.playAll(x, "c6d5");
        Due.due("a king took a pawn", x.clock(), 0);
    }

    private static int turned(int side, int square) {
        return side == 0 ? square : square ^ 56;
    }

    // The pawn on a2 keeps the position from being dead.
    private static Arbiter kings(int side, int own, int other) {
        Arbiter x = Boards.empty();
        x.put(turned(side, 8), 1 + 8 * side);
        x.put(turned(side, own), 6 + 8 * side);
        x.put(turned(side, other), 14 - 8 * side);
        return x;
    }

    private static void takes(int side, int from, int kind, int taken) {
        Arbiter x = kings(side, 5, 63);
        x.put(turned(side, from), kind + 8 * side);
        x.put(turned(side, 35), taken + 8 - 8 * side);
        String what = "side " + side + ", " + kind + " takes " + taken;
        Due.due(what + ": start", x.start(side, 0, -1), 0);
        Due.due(what + ": own king", x.move(turned(side, 5), turned(side, 6), 0), 0);
        Due.due(what + ": other king", x.move(turned(side, 63), turned(side, 55), 0), 0);
        Due.due(what + ": clock() before", x.clock(), 2);
        Due.due(what, x.move(turned(side, from), turned(side, 35), 0), 0);
        Due.due(what + ": clock()", x.clock(), 0);
    }

    private static void kingTakes(int side, int from, int taken) {
        Arbiter x = kings(side, 42, 63);
        x.put(turned(side, from), taken + 8 - 8 * side);
        String what = "side " + side + ", the king takes " + taken;
        Due.due(what + ": start", x.start(1 - side, 0, -1), 0);
        Due.due(what + ": it comes", x.move(turned(side, from), turned(side, 35), 0), 0);
        Due.due(what + ": clock() before", x.clock(), 1);
        Due.due(what, x.move(turned(side, 42), turned(side, 35), 0), 0);
        Due.due(what + ": clock()", x.clock(), 0);
    }

    private static void promise19Plies() {
        Arbiter x = new Arbiter();
        Boards.playAll(x, "g1f3");
        Due.due("plies", x.plies(), 1);
        Boards.play(x, "g1f3");
        Due.due("plies after a refused move", x.plies(), 1);
        Boards.playAll(x, "g8f6 f3g1");
        Due.due("plies", x.plies(), 3);
        x.back();
        Due.due("plies after back", x.plies(), 2);
        x.clear();
        Due.due("plies while setting up", x.plies(), 0);
        Boards.fill(x, "4k3/8/8/8/8/8/8/R3K3");
        x.start(0, 2, -1);
        Due.due("plies of a new game", x.plies(), 0);
    }
}
