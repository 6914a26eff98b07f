/** Promises 14 to 17: attackers, check, verdict, claims; and which positions are alike. */
public final class StandingTest {
    public static void main(String[] args) {
        promise14Attackers();
        promise14AttackersWhileSettingUp();
        promise14Wrong();
        promise15Check();
        promise16MateAndStalemate();
        promise16Dead();
        promise16Fivefold();
        promise16Clock();
        promise16Order();
        promise17Claims();
        alikeByRights();
        alikeByPassant();
        alikeByPassantThatNoPawnMayTake();
        alikeBySide();
        Due.finish();
    }

    private static void attacked(String pieces, String square, int white, int black) {
        MateArbiter x = Boards.pieces(pieces);
        Due.due(pieces + ": " + square + " by white", x.attackers(Boards.square(square), 0), white);
        Due.due(pieces + ": " + square + " by black", x.attackers(Boards.square(square), 1), black);
    }

    private static void promise14Attackers() {
        MateArbiter x = new MateArbiter();
        Due.due("f3 by white", x.attackers(21, 0), 3);
        Due.due("f6 by black", x.attackers(45, 1), 3);
        Due.due("e2 by white: own pieces do not matter", x.attackers(12, 0), 4);
        Due.due("e4 by white: pawns attack aslant alone", x.attackers(28, 0), 0);
        Due.due("h1 by white: a piece does not attack its own square", x.attackers(7, 0), 0);
        Due.due("a1 by black", x.attackers(0, 1), 0);
        MateArbiter pinned = Boards.game("k3r3/8/8/8/8/8/4B3/4K3 w - -");
        Due.due("a pinned bishop attacks too", pinned.attackers(Boards.square("d3"), 0), 1);
        Due.due("through the bishop", pinned.attackers(Boards.square("e1"), 1), 0);
        Due.due("the side to move does not matter", pinned.attackers(Boards.square("e2"), 1), 1);
        Due.due("the king's own bishop", pinned.attackers(Boards.square("e2"), 0), 1);
    }

    private static void promise14AttackersWhileSettingUp() {
        attacked("8/8/8/3P4/8/8/8/8", "c6", 1, 0);
        attacked("8/8/8/3P4/8/8/8/8", "e6", 1, 0);
        attacked("8/8/8/3P4/8/8/8/8", "d6", 0, 0);
        attacked("8/8/8/3P4/8/8/8/8", "c4", 0, 0);
        attacked("8/8/8/3p4/8/8/8/8", "c4", 0, 1);
        attacked("8/8/8/3p4/8/8/8/8", "e4", 0, 1);
        attacked("8/8/8/3p4/8/8/8/8", "e6", 0, 0);
        attacked("8/8/8/8/7P/8/8/8", "a6", 0, 0);
        attacked("8/8/8/8/7P/8/8/8", "a5", 0, 0);
        attacked("8/8/8/P7/8/8/8/8", "h5", 0, 0);
        attacked("8/8/8/P7/8/8/8/8", "h6", 0, 0);
        attacked("8/8/8/8/8/8/8/P7", "b2", 1, 0);
        attacked("P7/8/8/8/8/8/8/8", "b7", 0, 0);
        attacked("p7/8/8/8/8/8/8/8", "b7", 0, 1);
        attacked("8/8/8/8/3N4/8/8/8", "e6", 1, 0);
        attacked("8/8/8/8/3n4/8/8/8", "b3", 0, 1);
        attacked("8/8/8/8/7N/8/8/8", "a3", 0, 0);
        attacked("8/8/8/8/7N/8/8/8", "b5", 0, 0);
        attacked("8/8/8/8/3B4/8/8/8", "h8", 1, 0);
        attacked("8/8/5p2/8/3B4/8/8/8", "h8", 0, 0);
        attacked("8/8/5p2/8/3B4/8/8/8", "f6", 1, 0);
        attacked("8/8/8/8/3B4/8/8/8", "d5", 0, 0);
        attacked("8/8/8/8/R6r/8/8/8", "d4", 1, 1);
        attacked("8/8/8/8/R6r/8/8/8", "a4", 0, 1);
        attacked("8/8/8/8/RR5r/8/8/8", "d4", 1, 1);
        attacked("8/8/8/8/R6r/8/8/8", "d5", 0, 0);
        attacked("8/8/8/8/3Q4/8/8/8", "d8", 1, 0);
        attacked("8/8/8/8/3Q4/8/8/8", "a1", 1, 0);
        attacked("8/8/8/8/3Q4/8/8/8", "e6", 0, 0);
        attacked("8/8/8/8/3K4/8/8/8", "e5", 1, 0);
        attacked("8/8/8/8/3K4/8/8/8", "d5", 1, 0);
        attacked("8/8/8/8/3K4/8/8/8", "d6", 0, 0);
        attacked("8/8/8/8/K7/8/8/8", "h4", 0, 0);
        attacked("8/8/8/8/K7/8/8/8", "h5", 0, 0);
        attacked("8/8/8/8/K7/8/8/8", "h3", 0, 0);
        attacked("8/8/8/2kkk3/2k1k3/2kkk3/8/8", "d4", 0, 8);
        attacked("8/2N1N3/1NQQQN2/2QkQ3/1NQQQN2/2N1N3/8/8", "d5", 16, 0);
        MateArbiter empty = new MateArbiter();
        empty.clear();
        Due.due("nothing attacks", empty.attackers(0, 0), 0);
    }

    private static void promise14Wrong() {
        MateArbiter x = new MateArbiter();
        for (int round = 0; round < 2; round++) {
            int[] squares = {-1, 64, Integer.MIN_VALUE, Integer.MAX_VALUE};
            for (int square : squares) {
                Due.due("attackers(" + square + ", 0)", x.attackers(square, 0), -1);
            }
            int[] sides = {-1, 2, 8, Integer.MIN_VALUE, Integer.MAX_VALUE};
            for (int side : sides) {
                Due.due("attackers(20, " + side + ")", x.attackers(20, side), -1);
            }
            x.clear();
        }
    }

    private static void checks(String fen, boolean want) {
        Due.due("check of " + fen, Boards.game(fen).check(), want);
    }

    private static void promise15Check() {
        Due.due("check at first", new MateArbiter().check(), false);
        checks("4k3/8/8/8/8/8/4q3/4K3 w - -", true);
        checks("4k3/8/8/8/4r3/8/8/4K3 w - -", true);
        checks("4k3/8/8/8/4r3/4P3/8/4K3 w - -", false);
        checks("4k3/8/8/8/7b/8/8/4K3 w - -", true);
        checks("4k3/8/8/8/8/3n4/8/4K3 w - -", true);
        checks("4k3/8/8/8/8/8/3p4/4K3 w - -", true);
        checks("4k3/8/8/8/8/8/4p3/4K3 w - -", false);
        checks("4k3/3P4/8/8/8/8/8/4K3 b - -", true);
        checks("4k3/4P3/8/8/8/8/8/4K3 b - -", false);
        checks("4k3/8/8/8/4R3/8/8/4K3 b - -", true);
        MateArbiter x = Boards.game("4k3/8/8/8/8/8/8/R3K3 w Q -");
        Boards.playAll(x, "a1a8");
        Due.due("check by a move", x.check(), true);
        Boards.playAll(x, "e8d7");
        Due.due("the mover's side is not looked at", x.check(), false);
        x.back();
        Due.due("check again", x.check(), true);
        MateArbiter y = Boards.pieces("4k3/8/8/8/8/8/4q3/4K3");
        Due.due("check while setting up", y.check(), false);
    }

    private static void stands(String fen, int want) {
        Due.due("verdict of " + fen, Boards.game(fen).verdict(), want);
    }

    private static void promise16MateAndStalemate() {
        Due.due("verdict at first", new MateArbiter().verdict(), 0);
        stands("R5k1/5ppp/8/8/8/8/8/4K3 b - -", 1);
        stands("R5k1/6pp/8/8/8/8/8/4K3 b - -", 0);
        stands("6rk/5Npp/8/8/8/8/8/4K3 b - -", 1);
        stands("8/8/8/8/8/5k2/6q1/6K1 w - -", 1);
        stands("7k/5Q2/6K1/8/8/8/8/8 b - -", 2);
        stands("8/8/8/8/8/4k1q1/8/7K w - -", 2);
        stands("7k/5Q2/6K1/8/8/8/7p/8 b - -", 0);
        stands("k7/P7/1K6/8/8/8/8/8 b - -", 2);
    }

    private static void promise16Dead() {
        stands("4k3/8/8/8/8/8/8/4K3 w - -", 3);
        stands("4k3/8/8/8/8/8/8/2B1K3 w - -", 3);
        stands("4k3/8/8/8/8/8/8/1N2K3 w - -", 3);
        stands("2b1k3/8/8/8/8/8/8/4K3 b - -", 3);
        stands("1n2k3/8/8/8/8/8/8/4K3 b - -", 3);
        stands("4k3/8/8/8/8/8/P7/4K3 w - -", 0);
        stands("4k3/8/8/8/8/8/R7/4K3 w - -", 0);
        stands("4k3/8/8/8/8/8/Q7/4K3 w - -", 0);
        stands("4k3/8/8/8/8/8/1NN5/4K3 w - -", 0);
        stands("4k3/8/8/8/8/8/1NB5/4K3 w - -", 0);
        stands("4k3/2n5/8/8/8/8/1N6/4K3 w - -", 0);
        stands("4k3/2n5/8/8/8/8/1B6/4K3 w - -", 0);
        stands("4k3/8/8/8/8/8/1B6/2B1K3 w - -", 0);
        stands("4k3/8/8/8/8/2B5/1B6/4K3 w - -", 0);
        stands("4k3/8/8/8/8/2b5/1b6/3K4 w - -", 0);
        stands("4k3/8/1b6/8/8/8/1B6/4K3 w - -", 3);
        stands("4k3/b7/8/8/8/8/1B6/4K3 w - -", 3);
        stands("4k3/8/b7/8/8/8/2B5/4K3 w - -", 3);
        stands("4k3/8/b7/8/8/8/1B6/4K3 w - -", 0);
        stands("4k3/8/1b6/8/8/8/2B5/4K3 w - -", 0);
        stands("4k3/8/1b6/8/8/8/3B4/1B2K3 w - -", 0);
        stands("4k3/8/1b6/b7/8/8/1B6/3K4 w - -", 0);
        stands("4k3/8/1b6/8/8/8/1B5N/4K3 w - -", 0);
        stands("4k3/n7/1b6/8/8/8/1B6/4K3 w - -", 0);
    }

    private static void dance(MateArbiter x, int times) {
        for (int i = 0; i < times; i++) {
            Boards.playAll(x, "g1f3 g8f6 f3g1 f6g8");
        }
    }

    private static void promise16Fivefold() {
        MateArbiter x = new MateArbiter();
        dance(x, 3);
        Due.due("four times", x.verdict(), 0);
        Boards.playAll(x, "g1f3");
        Due.due("four times the other", x.verdict(), 0);
        Boards.playAll(x, "g8f6 f3g1");
        Due.due("four times yet another", x.verdict(), 0);
        Boards.playAll(x, "f6g8");
        Due.due("five times", x.verdict(), 4);
        Due.due("over", Boards.play(x, "e2e4"), MateArbiter.OVER);
        Due.due("back", x.back(), true);
        Boards.playAll(x, "f6e4");
        Due.due("another way", x.verdict(), 0);
        MateArbiter y = Boards.game("4k1n1/4p3/8/8/8/8/4P3/4K1N1 b - -");
        for (int i = 0; i < 4; i++) {
            Due.due("round " + i, y.verdict(), 0);
            Boards.playAll(y, "g8f6 g1f3 f6g8 f3g1");
        }
        Due.due("the first position counts", y.verdict(), 4);
    }

    private static final String ROOKS = "r7/7k/8/8/8/8/7K/R7 w - -";
    private static final String[] WHITE_WALK = "b1 c1 d1 e1 f1 g1 g2 f2 e2 d2 c2 a2 a1".split(" ");
    private static final String[] BLACK_WALK = "b8 c8 d8 e8 f8 a8".split(" ");

    // Rounds of 13 and of 6 stops: no position comes again within 156 plies.
    private static MateArbiter walk(int plies) {
        MateArbiter x = Boards.game(ROOKS);
        for (int i = 0; i < plies; i++) {
            String[] stops = i % 2 == 0 ? WHITE_WALK : BLACK_WALK;
            int at = i / 2 % stops.length;
            String from = stops[(at + stops.length - 1) % stops.length];
            Due.due("ply " + i + " of the walk", Boards.play(x, from + stops[at]), 0);
        }
        return x;
    }

    private static void kingsDance(MateArbiter x, int times) {
        for (int i = 0; i < times; i++) {
            Boards.playAll(x, "h2h3 h7h6 h3h2 h6h7");
        }
    }

    private static void promise16Clock() {
        MateArbiter x = walk(149);
        Due.due("clock", x.clock(), 149);
        Due.due("149", x.verdict(), 0);
        MateArbiter y = walk(150);
        Due.due("150", y.verdict(), 5);
        Due.due("over", Boards.play(y, "h2h3"), MateArbiter.OVER);
        Due.due("clock", y.clock(), 150);
        Due.due("moves are there all the same", y.moves() > 0, true);
        Due.due("back", y.back(), true);
        Due.due("149 again", y.verdict(), 0);
        Due.due("another move", Boards.play(y, "h7h6"), 0);
        Due.due("150 again", y.verdict(), 5);
    }

    private static void promise16Order() {
        stands("k7/2B5/1K6/8/8/8/8/8 b - -", 2);
        MateArbiter both = walk(134);
        kingsDance(both, 3);
        Due.due("four times at 146", both.verdict(), 0);
        kingsDance(both, 1);
        Due.due("clock", both.clock(), 150);
        Due.due("five times at 150", both.verdict(), 4);
        MateArbiter mate = Boards.game("6rk/6pp/8/6N1/R7/8/r7/7K b - -");
        String[] black = "b2 c2 d2 e2 a2".split(" ");
        String[] white = "b4 c4 d4 e4 f4 g4 a4".split(" ");
        for (int i = 0; i < 149; i++) {
            String[] stops = i % 2 == 0 ? black : white;
            int at = i / 2 % stops.length;
            Due.due("ply " + i, Boards.play(mate, stops[(at + stops.length - 1) % stops.length] + stops[at]), 0);
        }
        Boards.playAll(mate, "g5f7");
        Due.due("clock at mate", mate.clock(), 150);
        Due.due("mate at 150", mate.verdict(), 1);
    }

    private static void promise17Claims() {
        MateArbiter x = new MateArbiter();
        Due.due("claims at first", x.claims(), 0);
        dance(x, 1);
        Due.due("twice", x.claims(), 0);
        dance(x, 1);
        Due.due("three times", x.claims(), 1);
        Boards.playAll(x, "g1f3");
        Due.due("three times the one after it", x.claims(), 1);
        Boards.playAll(x, "b8c6");
        Due.due("a new one", x.claims(), 0);
        x.back();
        Due.due("back again", x.claims(), 1);
        Due.due("99", walk(99).claims(), 0);
        MateArbiter y = walk(100);
        Due.due("100", y.claims(), 2);
        kingsDance(y, 2);
        Due.due("three times at 108", y.claims(), 3);
        Due.due("a claim ends nothing", y.verdict(), 0);
        Boards.playAll(y, "h2h3");
        y.back();
        Due.due("still", y.claims(), 3);
        Due.due("149", walk(149).claims(), 2);
        y.clear();
        Due.due("claims while setting up", y.claims(), 0);
        MateArbiter z = Boards.game("8/7k/8/8/8/8/7K/R7 w - -");
        kingsDance(z, 2);
        Due.due("the first position counts", z.claims(), 1);
    }

    private static void alikeByRights() {
        MateArbiter x = Boards.game("r3k2r/8/8/8/8/8/8/R3K2R w KQkq -");
        for (int i = 0; i < 3; i++) {
            Due.due("round " + i + ": claims", x.claims(), 0);
            Boards.playAll(x, "h1g1 h8g8 g1h1 g8h8");
        }
        Due.due("three times with the rights left", x.claims(), 1);
    }

    private static void alikeByPassant() {
        MateArbiter x = Boards.game("4k1n1/3p4/8/4P3/8/8/8/4K1N1 b - -");
        Boards.playAll(x, "d7d5");
        for (int i = 0; i < 3; i++) {
            Due.due("round " + i + ": claims", x.claims(), 0);
            Boards.playAll(x, "g1f3 g8f6 f3g1 f6g8");
        }
        Due.due("three times without passant square", x.claims(), 1);
        MateArbiter first = Boards.game("4k1n1/8/8/3pP3/8/8/8/4K1N1 w - d6");
        dance(first, 2);
        Due.due("passant square of the first position", first.claims(), 0);
        dance(first, 1);
        Due.due("three times behind it", first.claims(), 1);
    }

    private static void alikeByPassantThatNoPawnMayTake() {
        MateArbiter none = Boards.game("4k1n1/3p4/8/8/8/8/8/4K1N1 b - -");
        Boards.playAll(none, "d7d5");
        dance(none, 2);
        Due.due("no pawn is near", none.claims(), 1);
        MateArbiter knight = Boards.game("4k1n1/3p4/8/8/2N5/8/8/4K1N1 b - -");
        Boards.playAll(knight, "d7d5");
        Due.due("a knight can go there", Boards.lists(knight, "c4d6"), true);
        dance(knight, 2);
        Due.due("a knight does not count", knight.claims(), 1);
        MateArbiter pinned = Boards.game("4r1k1/3p4/8/4P3/8/8/8/4K1N1 b - -");
        Boards.playAll(pinned, "d7d5");
        Due.due("passant", pinned.passant(), 43);
        Due.due("the pawn is pinned", Boards.lists(pinned, "e5d6"), false);
        Boards.playAll(pinned, "g1f3 g8h8 f3g1 h8g8 g1f3 g8h8 f3g1 h8g8");
        Due.due("a pinned pawn does not count", pinned.claims(), 1);
    }

    private static void alikeBySide() {
        MateArbiter x = Boards.game("4k3/8/8/8/8/8/R7/4K3 w - -");
        Boards.playAll(x, "a2a3 e8d8 a3a1 d8e8 a1a2 e8d8 a2b2 d8d7 b2a2 d7e8");
        Due.due("twice with white to move, once with black", x.claims(), 0);
        Boards.playAll(x, "a2b2 e8d8 b2a2 d8e8");
        Due.due("three times with white to move", x.claims(), 1);
    }
}
