/** Promise 20: search. */
public final class SearchTest {
    public static void main(String[] args) {
        promise20Material();
        promise20OneAhead();
        promise20TwoAhead();
        promise20NoMove();
        promise20Promotions();
        promise20VerdictsNotLookedAt();
        promise20TimesNotLookedAt();
        promise20ClockNotLookedAt();
        promise20ChangesNothing();
        Due.finish();
    }

    private static void values(String fen, int zero, int one, int two) {
        for (int way = 0; way < Mirror.ways(fen); way++) {
            String other = Mirror.fen(fen, way);
            Arbiter x = Boards.game(other);
            Due.due("search(0) of " + other, x.search(0), zero);
            Due.due("search(1) of " + other, x.search(1), one);
            Due.due("search(2) of " + other, x.search(2), two);
        }
    }

    private static void promise20Material() {
        Due.due("search(0)", new Arbiter().search(0), 0);
        String[] pieces = {"P", "N", "B", "R", "Q"};
        int[] worth = {1, 3, 3, 5, 9};
        for (int i = 0; i < 5; i++) {
            String white = "7k/8/8/8/" + pieces[i] + "7/8/8/K7 ";
            String black = "k7/8/8/8/7" + pieces[i].toLowerCase() + "/8/8/K7 ";
            Due.due(white, Boards.game(white + "w - -").search(0), worth[i]);
            Due.due(white + "b", Boards.game(white + "b - -").search(0), -worth[i]);
            Due.due(black, Boards.game(black + "w - -").search(0), -worth[i]);
            Due.due(black + "b", Boards.game(black + "b - -").search(0), worth[i]);
        }
    }

    private static void promise20OneAhead() {
        values("4k3/8/8/3p4/4P3/8/8/4K3 w - -", 0, 1, 1);
        values("4k3/8/4p3/3p4/4P3/8/8/4K3 w - -", -1, 0, -1);
        values("4k3/8/8/3pP3/8/8/8/4K3 w - d6", 0, 1, 1);
        values("4k3/8/8/3pP3/8/8/8/4K3 w - -", 0, 0, 0);
        values("1n5k/P7/8/8/8/8/8/K7 w - -", -2, 9, 9);
        values("7k/8/8/8/8/8/p7/1N5K b - -", -2, 9, 9);
        values("k3r3/8/8/8/5q2/8/4N3/4K3 w - -", -11, -11, -14);
        values("4k3/8/8/8/8/8/4q3/4K3 w - -", -9, 0, 0);
        values("4k3/8/8/8/8/5b2/4q3/4K3 w - -", -12, -1000, -1000);
    }

    private static void promise20TwoAhead() {
        values("6k1/5ppp/8/8/8/8/8/R3K3 w Q -", 2, 2, 1000);
        values("4k3/8/8/3q4/8/8/8/3RK3 w - -", -4, 5, 5);
        values("3rk3/8/8/3p4/8/8/8/3RK3 w - -", -1, 0, -1);
        values("7k/8/6K1/8/8/8/8/5Q2 w - -", 9, 9, 1000);
        // The pawn is lost by one step as by two: that is taken in passing.
        values("7k/8/8/8/3p4/1q6/4P3/K7 w - -", -9, -9, -10);
        values("7k/8/8/8/2p5/1q6/4P3/K7 w - -", -9, -9, -9);
    }

    private static void promise20NoMove() {
        values("R5k1/5ppp/8/8/8/8/8/4K3 b - -", -2, -1000, -1000);
        values("7k/5Q2/6K1/8/8/8/8/8 b - -", -9, 0, 0);
        values("8/8/8/8/8/8/5b1p/5K1k w - -", -4, -1, 0);
        values("8/4R3/k5qK/2Q5/8/8/8/8 w - -", 5, 14, 0);
    }

    // The queen is the best promotion one move ahead, but another one is two moves ahead.
    private static void promise20Promotions() {
        values("8/k1P5/8/8/8/8/1p6/4K3 w - -", 0, 8, 2);
        values("8/k2P4/1R1K4/8/8/8/8/8 w - -", 6, 14, 8);
        values("8/5P1k/8/6K1/8/8/8/8 w - -", 1, 9, 5);
        values("8/6P1/8/8/8/k7/8/K7 w - -", 1, 9, 9);
    }

    private static void valuesOfTwin(String when, Arbiter x) {
        Arbiter twin = Boards.twin(x);
        for (int depth = 0; depth <= 2; depth++) {
            Due.due(when + ": search(" + depth + ")", x.search(depth), twin.search(depth));
        }
    }

    // Black is far behind, so that a draw would be the greatest value it can come to.
    private static void promise20TimesNotLookedAt() {
        String fen = "4k1n1/4p3/8/8/8/8/4P3/4K1NQ w - -";
        String[] round = "g1f3 g8f6 f3g1 f6g8".split(" ");
        for (int plies = 5; plies <= 16; plies++) {
            Arbiter x = Boards.game(fen);
            for (int ply = 0; ply < plies; ply++) {
                Boards.playAll(x, round[ply % 4]);
            }
            Due.due("verdict", x.verdict(), plies == 16 ? 4 : 0);
            Due.due("search(0)", x.search(0), plies % 2 == 0 ? 9 : -9);
            Due.due("search(1)", x.search(1), plies % 2 == 0 ? 9 : -9);
            Due.due("search(2) is far from a draw", Math.abs(x.search(2)) >= 8, true);
            valuesOfTwin("behind " + plies + " plies of a dance", x);
        }
    }

    // White is a pawn ahead; at 99 black can take it, at 100 and 150 white can take the rook.
    private static void promise20ClockNotLookedAt() {
        int[] clocks = {98, 99, 100, 101, 148, 149, 150};
        int[] values = {1, 0, 6, -1, 1, -1, 6};
        for (int i = 0; i < clocks.length; i++) {
            Arbiter x = Walks.walked(clocks[i]);
            String when = "clock at " + clocks[i];
            Due.due(when + ": verdict()", x.verdict(), clocks[i] == 150 ? 5 : 0);
            Due.due(when + ": search(0)", x.search(0), clocks[i] % 2 == 0 ? 1 : -1);
            Due.due(when + ": search(1)", x.search(1), values[i]);
            Due.due(when + ": search(2)", x.search(2), values[i]);
            valuesOfTwin(when, x);
        }
    }

    private static void promise20VerdictsNotLookedAt() {
        values("4k3/8/8/8/8/8/8/2B1K3 w - -", 3, 3, 3);
        values("4k3/8/8/8/8/8/4n3/2B1K3 w - -", 0, 3, 3);
        Arbiter x = new Arbiter();
        Boards.playAll(x, "e2e4 d7d5");
        for (int i = 0; i < 4; i++) {
            Boards.playAll(x, "g1f3 g8f6 f3g1 f6g8");
        }
        Due.due("five times", x.verdict(), 4);
        Due.due("search(1) all the same", x.search(1), 1);
        values("7k/8/8/8/8/8/8/K6N w - -", 3, 3, 3);
        values("7k/8/8/8/8/8/8/K6N b - -", -3, -3, -3);
    }

    private static void promise20ChangesNothing() {
        String[] fens = {
            "r3k2r/p1ppqpb1/bn2pnp1/3PN3/1p2P3/2N2Q1p/PPPBBPPP/R3K2R w KQkq -",
            "r3k2r/p1ppqpb1/bn2pnp1/3PN3/1p2P3/2N2Q1p/PPPBBPPP/R3K2R b KQkq -",
            "n1n5/PPPk4/8/8/8/8/4Kppp/5N1N b - -",
            "4k3/8/8/2PpP3/8/8/8/4K3 w - d6",
        };
        for (String fen : fens) {
            Arbiter x = Boards.game(fen);
            String before = Boards.state(x);
            int first = x.legal(0);
            int value = x.search(2);
            Due.due("search(2) again", x.search(2), value);
            x.search(1);
            x.search(0);
            Due.due("nothing changed in " + fen, Boards.state(x).equals(before), true);
            Due.due("legal(0) of " + fen, x.legal(0), first);
        }
    }
}
