/** Promises 14 to 16: attackers, check, verdict. */
public final class StandingTest {
    public static void main(String[] args) {
        promise14Attackers();
        promise14AttackersWhileSettingUp();
        promise15Check();
        promise16MateAndStalemate();
        promise16Dead();
        promise16Order();
        Due.finish();
    }

    private static void attacked(String pieces, String square, int white, int black) {
        Arbiter x = Boards.pieces(pieces);
        Due.due(pieces + ": " + square + " by white", x.attackers(Boards.square(square), 0), white);
        Due.due(pieces + ": " + square + " by black", x.attackers(Boards.square(square), 1), black);
    }

    private static void promise14Attackers() {
        Arbiter x = new Arbiter();
        Due.due("f3 by white", x.attackers(21, 0), 3);
        Due.due("f6 by black", x.attackers(45, 1), 3);
        Due.due("e2 by white: own pieces do not matter", x.attackers(12, 0), 4);
        Due.due("e4 by white: pawns attack aslant alone", x.attackers(28, 0), 0);
        Due.due("h1 by white: a piece does not attack its own square", x.attackers(7, 0), 0);
        Due.due("a1 by black", x.attackers(0, 1), 0);
        Arbiter pinned = Boards.game("k3r3/8/8/8/8/8/4B3/4K3 w - -");
        Due.due("a pinned bishop attacks too", pinned.attackers(Boards.square("d3"), 0), 1);
        Due.due("through the bishop", pinned.attackers(Boards.square("e1"), 1), 0);
        Due.due("the side to move does not matter", pinned.attackers(Boards.square("e2"), 1), 1);
        Due.due("the king's own bishop", pinned.attackers(Boards.square("e2"), 0), 1);
    }

    private static void promise14AttackersWhileSettingUp() {
        attacked("8/8/8/3P4/8/8/8/8", "c6", 1, 0);
        attacked("8/8/8/3P4/8/8/8/8", "e6", 1, 0);
        attacked("8/8/8/3P4/8/8/8/8", "d6", 0, 0);
        attacked("8/8/8/3P4/8/8/8/8", "c4", 0, 0);
        attacked("8/8/8/3p4/8/8/8/8", "c4", 0, 1);
        attacked("8/8/8/3p4/8/8/8/8", "e4", 0, 1);
        attacked("8/8/8/3p4/8/8/8/8", "e6", 0, 0);
        attacked("8/8/8/8/7P/8/8/8", "a6", 0, 0);
        attacked("8/8/8/8/7P/8/8/8", "a5", 0, 0);
        attacked("8/8/8/P7/8/8/8/8", "h5", 0, 0);
        attacked("8/8/8/P7/8/8/8/8", "h6", 0, 0);
        attacked("8/8/8/8/8/8/8/P7", "b2", 1, 0);
        attacked("P7/8/8/8/8/8/8/8", "b7", 0, 0);
        attacked("p7/8/8/8/8/8/8/8", "b7", 0, 1);
        attacked("8/8/8/8/3N4/8/8/8", "e6", 1, 0);
        attacked("8/8/8/8/3n4/8/8/8", "b3", 0, 1);
        attacked("8/8/8/8/7N/8/8/8", "a3", 0, 0);
        attacked("8/8/8/8/7N/8/8/8", "b5", 0, 0);
        attacked("8/8/8/8/3B4/8/8/8", "h8", 1, 0);
        attacked("8/8/5p2/8/3B4/8/8/8", "h8", 0, 0);
        attacked("8/8/5p2/8/3B4/8/8/8", "f6", 1, 0);
        attacked("8/8/8/8/3B4/8/8/8", "d5", 0, 0);
        attacked("8/8/8/8/R6r/8/8/8", "d4", 1, 1);
        attacked("8/8/8/8/R6r/8/8/8", "a4", 0, 1);
        attacked("8/8/8/8/RR5r/8/8/8", "d4", 1, 1);
        attacked("8/8/8/8/R6r/8/8/8", "d5", 0, 0);
        attacked("8/8/8/8/3Q4/8/8/8", "d8", 1, 0);
        attacked("8/8/8/8/3Q4/8/8/8", "a1", 1, 0);
        attacked("8/8/8/8/3Q4/8/8/8", "e6", 0, 0);
        attacked("8/8/8/8/3K4/8/8/8", "e5", 1, 0);
        attacked("8/8/8/8/3K4/8/8/8", "d5", 1, 0);
        attacked("8/8/8/8/3K4/8/8/8", "d6", 0, 0);
        attacked("8/8/8/8/K7/8/8/8", "h4", 0, 0);
        attacked("8/8/8/8/K7/8/8/8", "h5", 0, 0);
        attacked("8/8/8/8/K7/8/8/8", "h3", 0, 0);
        attacked("8/8/8/2kkk3/2k1k3/2kkk3/8/8", "d4", 0, 8);
        attacked("8/2N1N3/1NQQQN2/2QkQ3/1NQQQN2/2N1N3/8/8", "d5", 16, 0);
        Arbiter empty = Boards.empty();
        Due.due("nothing attacks", empty.attackers(0, 0), 0);
    }

    private static void checks(String fen, boolean want) {
        for (int way = 0; way < Mirror.ways(fen); way++) {
            Due.due("way " + way + ": check of " + fen, Boards.game(Mirror.fen(fen, way)).check(), want);
        }
    }

    private static void promise15Check() {
        Due.due("check at first", new Arbiter().check(), false);
        checks("4k3/8/8/8/8/8/4q3/4K3 w - -", true);
        checks("4k3/8/8/8/4r3/8/8/4K3 w - -", true);
        checks("4k3/8/8/8/4r3/4P3/8/4K3 w - -", false);
        checks("4k3/8/8/8/7b/8/8/4K3 w - -", true);
        checks("4k3/8/8/8/8/3n4/8/4K3 w - -", true);
        checks("4k3/8/8/8/8/8/3p4/4K3 w - -", true);
        checks("4k3/8/8/8/8/8/4p3/4K3 w - -", false);
        checks("4k3/3P4/8/8/8/8/8/4K3 b - -", true);
        checks("4k3/4P3/8/8/8/8/8/4K3 b - -", false);
        checks("4k3/8/8/8/4R3/8/8/4K3 b - -", true);
        Arbiter x = Boards.game("4k3/8/8/8/8/8/8/R3K3 w Q -");
        Boards.playAll(x, "a1a8");
        Due.due("check by a move", x.check(), true);
        Boards.playAll(x, "e8d7");
        Due.due("the mover's side is not looked at", x.check(), false);
        x.back();
        Due.due("check again", x.check(), true);
        Arbiter y = Boards.pieces("4k3/8/8/8/8/8/4q3/4K3");
        Due.due("check while setting up", y.check(), false);
    }

    private static void stands(String fen, int want) {
        for (int way = 0; way < Mirror.ways(fen); way++) {
            Due.due("way " + way + ": verdict of " + fen, Boards.game(Mirror.fen(fen, way)).verdict(), want);
        }
    }

    private static void promise16MateAndStalemate() {
        Due.due("verdict at first", new Arbiter().verdict(), 0);
        stands("R5k1/5ppp/8/8/8/8/8/4K3 b - -", 1);
        stands("R5k1/6pp/8/8/8/8/8/4K3 b - -", 0);
        stands("6rk/5Npp/8/8/8/8/8/4K3 b - -", 1);
        stands("8/8/8/8/8/5k2/6q1/6K1 w - -", 1);
        stands("7k/5Q2/6K1/8/8/8/8/8 b - -", 2);
        stands("8/8/8/8/8/4k1q1/8/7K w - -", 2);
        stands("7k/5Q2/6K1/8/8/8/7p/8 b - -", 0);
        stands("k7/P7/1K6/8/8/8/8/8 b - -", 2);
    }

    private static void promise16Dead() {
        stands("4k3/8/8/8/8/8/8/4K3 w - -", 3);
        stands("4k3/8/8/8/8/8/8/2B1K3 w - -", 3);
        stands("4k3/8/8/8/8/8/8/1N2K3 w - -", 3);
        stands("2b1k3/8/8/8/8/8/8/4K3 b - -", 3);
        stands("1n2k3/8/8/8/8/8/8/4K3 b - -", 3);
        stands("4k3/8/8/8/8/8/P7/4K3 w - -", 0);
        stands("4k3/8/8/8/8/8/R7/4K3 w - -", 0);
        stands("4k3/8/8/8/8/8/Q7/4K3 w - -", 0);
        stands("4k3/8/8/8/8/8/1NN5/4K3 w - -", 0);
        stands("4k3/8/8/8/8/8/1NB5/4K3 w - -", 0);
        stands("4k3/2n5/8/8/8/8/1N6/4K3 w - -", 0);
        stands("4k3/2n5/8/8/8/8/1B6/4K3 w - -", 0);
        stands("4k3/8/8/8/8/8/1B6/2B1K3 w - -", 0);
        stands("4k3/8/8/8/8/2B5/1B6/4K3 w - -", 0);
        stands("4k3/8/8/8/8/2b5/1b6/3K4 w - -", 0);
        stands("4k3/8/1b6/8/8/8/1B6/4K3 w - -", 3);
        stands("4k3/b7/8/8/8/8/1B6/4K3 w - -", 3);
        stands("4k3/8/b7/8/8/8/2B5/4K3 w - -", 3);
        stands("4k3/8/b7/8/8/8/1B6/4K3 w - -", 0);
        stands("4k3/8/1b6/8/8/8/2B5/4K3 w - -", 0);
        stands("4k3/8/1b6/8/8/8/3B4/1B2K3 w - -", 0);
        stands("4k3/8/1b6/b7/8/8/1B6/3K4 w - -", 0);
        stands("4k3/8/1b6/8/8/8/1B5N/4K3 w - -", 0);
        stands("4k3/n7/1b6/8/8/8/1B6/4K3 w - -", 0);
    }

    // Mate before the clock and five times before the clock: CountTest.
    private static void promise16Order() {
        stands("k7/2B5/1K6/8/8/8/8/8 b - -", 2);
        stands("k7/2N5/K7/8/8/8/8/8 b - -", 3);
        stands("k7/8/K1N5/8/8/8/8/8 b - -", 2);
    }
}
