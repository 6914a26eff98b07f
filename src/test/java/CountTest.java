/** Promises 16 and 17: just below, at and above 3 and 5 times, 100 and 150 plies, and the men left. */
public final class CountTest {
    public static void main(String[] args) {
        claimAtThreeTimes();
        verdictAtFiveTimes();
        countsFromTheFirstPosition();
        takenBackDoesNotCount();
        refusedDoesNotCount();
        aNewGameCountsAnew();
        claimAtClock100();
        verdictAtClock150();
        bothClaimsAtOnce();
        pawnSetsTheClockBack();
        takingSetsTheClockBack();
        matedAtClock150();
        deadByMenLeft();
        deadByBishopsOnEverySquare();
        deadNeedsBishopsOfBothSides();
        Due.finish();
    }

    private static void stands(String when, Arbiter x, int claims, int verdict) {
        Due.due(when + ": claims()", x.claims(), claims);
        Due.due(when + ": verdict()", x.verdict(), verdict);
    }

    private static void claimAtThreeTimes() {
        Arbiter x = new Arbiter();
        stands("once", x, 0, 0);
        Walks.knightsDance(x, 1);
        stands("twice", x, 0, 0);
        Boards.playAll(x, "g1f3 g8f6 f3g1");
        stands("twice the one before it", x, 0, 0);
        Boards.playAll(x, "f6g8");
        stands("three times", x, 1, 0);
        Boards.playAll(x, "g1f3");
        stands("three times the one after it", x, 1, 0);
        Boards.playAll(x, "b8c6");
        stands("a new one", x, 0, 0);
        x.back();
        stands("three times again", x, 1, 0);
    }

    private static void verdictAtFiveTimes() {
        Arbiter x = new Arbiter();
        Walks.knightsDance(x, 3);
        stands("four times", x, 1, 0);
        Boards.playAll(x, "g1f3 g8f6 f3g1");
        stands("four times the one before it", x, 1, 0);
        Boards.playAll(x, "f6g8");
        stands("five times", x, 1, 4);
        Due.due("there are moves all the same", x.moves(), 20);
        Due.due("over", Boards.play(x, "e2e4"), MateArbiter.OVER);
        Due.due("plies", x.plies(), 16);
        Due.due("back", x.back(), true);
        stands("four times again", x, 1, 0);
        Boards.playAll(x, "f6e4");
        stands("another way", x, 0, 0);
    }

    private static void countsFromTheFirstPosition() {
        Arbiter x = Boards.game("4k1n1/4p3/8/8/8/8/4P3/4K1N1 b - -");
        for (int times = 1; times <= 4; times++) {
            stands(times + " times", x, times >= 3 ? 1 : 0, 0);
            Boards.playAll(x, "g8f6 g1f3 f6g8 f3g1");
        }
        stands("5 times", x, 1, 4);
    }

    private static void takenBackDoesNotCount() {
        Arbiter x = new Arbiter();
        for (int round = 0; round < 6; round++) {
            Walks.knightsDance(x, 1);
            stands("twice, round " + round, x, 0, 0);
            Walks.takeBack(x, 4);
            stands("once, round " + round, x, 0, 0);
        }
        Walks.knightsDance(x, 4);
        stands("five times", x, 1, 4);
        Walks.takeBack(x, 8);
        stands("three times", x, 1, 0);
        Walks.takeBack(x, 4);
        stands("twice", x, 0, 0);
        Walks.knightsDance(x, 2);
        stands("four times", x, 1, 0);
        Walks.knightsDance(x, 1);
        stands("five times again", x, 1, 4);
    }

    private static void refusedDoesNotCount() {
        Arbiter x = new Arbiter();
        Walks.knightsDance(x, 1);
        for (int i = 0; i < 5; i++) {
            Due.due("a wrong move", Boards.play(x, "g1g3"), -1);
            Due.due("put", x.put(20, 1), false);
            Due.due("start", x.start(0, 15, -1), -1);
            stands("twice", x, 0, 0);
        }
        Walks.knightsDance(x, 3);
        for (int i = 0; i < 5; i++) {
            Due.due("over", Boards.play(x, "g1f3"), MateArbiter.OVER);
            stands("five times", x, 1, 4);
        }
        Walks.takeBack(x, 1);
        stands("four times", x, 1, 0);
    }

    private static void aNewGameCountsAnew() {
        Arbiter x = new Arbiter();
        Walks.knightsDance(x, 4);
        stands("five times", x, 1, 4);
        x.standard();
        stands("standard", x, 0, 0);
        Walks.knightsDance(x, 1);
        stands("twice behind standard", x, 0, 0);
        Walks.knightsDance(x, 1);
        stands("three times behind standard", x, 1, 0);
        x.clear();
        stands("setting up", x, 0, 0);
        Boards.fill(x, "rnbqkbnr/pppppppp/8/8/8/8/PPPPPPPP/RNBQKBNR");
        Due.due("start", x.start(0, 15, -1), 0);
        stands("started", x, 0, 0);
        Walks.knightsDance(x, 1);
        stands("twice behind start", x, 0, 0);
    }

    private static void claimAtClock100() {
        Arbiter x = Walks.walked(99);
        Due.due("clock", x.clock(), 99);
        stands("99", x, 0, 0);
        Walks.walk(x, 99, 1);
        Due.due("clock", x.clock(), 100);
        stands("100", x, 2, 0);
        x.back();
        stands("99 again", x, 0, 0);
        Walks.walk(x, 99, 2);
        stands("101", x, 2, 0);
    }

    private static void verdictAtClock150() {
        Arbiter x = Walks.walked(149);
        Due.due("clock", x.clock(), 149);
        stands("149", x, 2, 0);
        Walks.walk(x, 149, 1);
        Due.due("clock", x.clock(), 150);
        stands("150", x, 2, 5);
        Due.due("over", Boards.play(x, "h2h3"), MateArbiter.OVER);
        Due.due("moves are there all the same", x.moves() > 0, true);
        Due.due("back", x.back(), true);
        stands("149 again", x, 2, 0);
        Due.due("another move", Boards.play(x, "h7h6"), 0);
        stands("150 again", x, 2, 5);
    }

    private static void bothClaimsAtOnce() {
        Arbiter x = Walks.walked(92);
        Walks.kingsDance(x, 1);
        stands("twice at 96", x, 0, 0);
        Boards.playAll(x, "h2h3 h7h6 h3h2");
        stands("twice at 99", x, 0, 0);
        Boards.playAll(x, "h6h7");
        stands("three times at 100", x, 3, 0);
        Walks.kingsDance(x, 1);
        stands("four times at 104", x, 3, 0);
        Walks.kingsDance(x, 1);
        stands("five times at 108", x, 3, 4);
        Arbiter y = Walks.walked(134);
        Walks.kingsDance(y, 3);
        stands("four times at 146", y, 3, 0);
        Walks.kingsDance(y, 1);
        Due.due("clock", y.clock(), 150);
        stands("five times at 150", y, 3, 4);
    }

    private static void pawnSetsTheClockBack() {
        Arbiter x = Walks.walked(148);
        Boards.playAll(x, "b3b4");
        Due.due("a pawn at 148", x.clock(), 0);
        stands("a pawn at 148", x, 0, 0);
        x.back();
        Due.due("taken back", x.clock(), 148);
        stands("148", x, 2, 0);
        Walks.walk(x, 148, 2);
        stands("150", x, 2, 5);
        Due.due("even a pawn comes too late", Boards.play(x, "b3b4"), MateArbiter.OVER);
        Due.due("150", x.clock(), 150);
    }

    private static void takingSetsTheClockBack() {
        Arbiter x = Walks.walked(148);
        Boards.playAll(x, "e2c2");
        Due.due("clock", x.clock(), 149);
        Boards.playAll(x, "c8c2");
        Due.due("a rook took at 149", x.clock(), 0);
        stands("a rook took at 149", x, 0, 0);
        x.back();
        Due.due("taken back", x.clock(), 149);
        stands("149", x, 2, 0);
    }

    private static void matedAtClock150() {
        Arbiter x = Boards.game("6rk/6pp/8/6N1/R7/8/r7/7K b - -");
        String[] black = "b2 c2 d2 e2 a2".split(" ");
        String[] white = "b4 c4 d4 e4 f4 g4 a4".split(" ");
        Walks.rounds(x, black, white, 0, 149);
        Boards.playAll(x, "g5f7");
        Due.due("clock at mate", x.clock(), 150);
        stands("mate at 150", x, 2, 1);
    }

    private static final int[] MEN = {1, 2, 3, 4, 5, 9, 10, 11, 12, 13};

    private static boolean isMinor(int piece) {
        return piece % 8 == 2 || piece % 8 == 3;
    }

    // From none of the squares below does a man attack a king in its corner.
    private static Arbiter withMen(int[] squares, int[] men) {
        Arbiter x = Boards.empty();
        x.put(7, 6);
        x.put(63, 14);
        for (int i = 0; i < men.length; i++) {
            x.put(squares[i], men[i]);
        }
        Due.due("start with " + men.length + " men", x.start(0, 0, -1), 0);
        return x;
    }

    private static void deadByMenLeft() {
        stands("no men", withMen(new int[0], new int[0]), 0, 3);
        int[] firsts = {24, 25};
        int[] seconds = {32, 33};
        for (int first : MEN) {
            for (int a : firsts) {
                Arbiter one = withMen(new int[] {a}, new int[] {first});
                Due.due(first + " on " + a, one.verdict(), isMinor(first) ? 3 : 0);
                for (int second : MEN) {
                    for (int b : seconds) {
                        boolean bishops = first + second == 14 && first % 8 == 3 && second % 8 == 3;
                        boolean alike = (a % 8 + a / 8 + b % 8 + b / 8) % 2 == 0;
                        Arbiter two = withMen(new int[] {a, b}, new int[] {first, second});
                        Due.due(first + " on " + a + ", " + second + " on " + b, two.verdict(), bishops && alike ? 3 : 0);
                    }
                }
            }
        }
    }

    // Every pair of squares; the side that waits keeps its king where the bishop does not attack it.
    private static void deadByBishopsOnEverySquare() {
        for (int a = 0; a < 64; a++) {
            for (int b = 0; b < 64; b++) {
                if (a != b) {
                    boolean even = (a % 8 + a / 8) % 2 == 0;
                    boolean alsoEven = (b % 8 + b / 8) % 2 == 0;
                    Due.due("bishops on " + a + ", " + b, withBishops(a, b).verdict(), even == alsoEven ? 3 : 0);
                }
            }
        }
    }

    private static Arbiter withBishops(int a, int b) {
        int[] whiteKings = {3, 4, 24};
        int[] blackKings = {59, 60, 39, 40};
        Arbiter x = Boards.empty();
        for (int i = 0; i < 12 && x.side() < 0; i++) {
            int white = whiteKings[i % 3];
            int black = blackKings[i / 3];
            if (white != a && white != b && black != a && black != b) {
                x.clear();
                x.put(a, 3);
                x.put(b, 11);
                x.put(white, 6);
                x.put(black, 14);
                x.start(0, 0, -1);
            }
        }
        Due.due("a game with bishops on " + a + ", " + b, x.side(), 0);
        return x;
    }

    private static void deadNeedsBishopsOfBothSides() {
        int[][] squares = {{25, 32, 34}, {25, 32, 26}, {24, 33, 34}, {24, 33, 26}};
        int[] bishops = {3, 11};
        for (int[] places : squares) {
            for (int third : MEN) {
                for (int swap = 0; swap < 2; swap++) {
                    int[] men = {bishops[swap], bishops[1 - swap], third};
                    Due.due("bishops and " + third + " on " + places[2], withMen(places, men).verdict(), 0);
                }
            }
        }
    }
}
