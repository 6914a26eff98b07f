/** An object is used for at most 512 calls: runs of just as many, the last of which is still promised. */
public final class LongRunTest {
    private static final int CALLS = Arbiter.CALLS;

    // White and black in turn; all of it leaves the knights' squares free, and nothing is taken.
    private static final String[] STEPS = ("a2a3 a7a6 b2b3 b7b6 c2c3 c7c6 d2d3 d7d6 e2e3 e7e6 g2g3 g7g6 h2h3 h7h6 "
        + "a3a4 a6a5 b3b4 b6b5 c3c4 c6c5 d3d4 d6d5 e3e4 e6e5 g3g4 g6g5 h3h4 h6h5").split(" ");

    public static void main(String[] args) {
        oneGameOfMovesAlone();
        everyCallAMove();
        halfForwardHalfBack();
        fiveTimesLateInAGame();
        backAndForthAtOnePly();
        manyGames();
        eachCallAgainAndAgain();
        lastCallIsPromised();
        Due.finish();
    }

    private static void spent(String what, Arbiter x) {
        Due.due(what + ": calls left", x.left(), 0);
    }

    private static void oneGameOfMovesAlone() {
        Arbiter x = Walks.rooks();
        String[] steps = {"b3b4 h7h6", "b4b5 h6h7", "b5b6 h7h6"};
        int walked = 0;
        for (String step : steps) {
            Walks.walk(x, walked, 140);
            walked += 140;
            Due.due("clock", x.clock(), walked == 140 ? 140 : 141);
            Boards.playAll(x, step);
        }
        Walks.walk(x, walked, x.left() - 3);
        Due.due("plies", x.plies(), 420 + 6 + 73);
        Due.due("clock", x.clock(), 1 + 73);
        Due.due("verdict", x.verdict(), 0);
        spent("moves alone", x);
    }

    // Before each step of a pawn three rounds of the knights: no position comes a fifth time.
    private static String moveAt(int ply) {
        int round = ply / 13;
        if (ply % 13 == 12) {
            return STEPS[round];
        }
        String[] white = {"g1f3", "f3g1"};
        String[] black = {"g8f6", "f6g8"};
        boolean isWhite = (ply % 13 + round) % 2 == 0;
        return (isWhite ? white : black)[ply % 13 / 2 % 2];
    }

    private static void play(Arbiter x, int first, int plies) {
        for (int ply = first; ply < first + plies; ply++) {
            Due.due("ply " + ply + ", " + moveAt(ply), Boards.play(x, moveAt(ply)), 0);
        }
    }

    // Behind the pawns' steps the rooks go rounds of 9 and of 5 stops, so that nothing comes again soon.
    private static final String[] WHITE_ROUND = "a2 b2 c2 d2 d3 c3 b3 a3 a1".split(" ");
    private static final String[] BLACK_ROUND = "h7 g7 g6 h6 h8".split(" ");

    private static void fullGame(Arbiter x, int plies) {
        int stepped = 13 * STEPS.length;
        play(x, 0, stepped);
        Walks.rounds(x, WHITE_ROUND, BLACK_ROUND, 0, plies - stepped);
    }

    private static void everyCallAMove() {
        Arbiter x = new Arbiter();
        fullGame(x, CALLS);
        spent("512 moves", x);
        Arbiter y = new Arbiter();
        fullGame(y, CALLS - 1);
        Due.due("plies", y.plies(), CALLS - 1);
        Arbiter z = new Arbiter();
        fullGame(z, CALLS - 4);
        Due.due("verdict", z.verdict(), 0);
        Due.due("claims", z.claims(), 2);
        Due.due("back", z.back(), true);
        Due.due("clock", z.clock(), CALLS - 5 - 13 * STEPS.length);
    }

    private static void halfForwardHalfBack() {
        Arbiter x = new Arbiter();
        play(x, 0, 255);
        Walks.takeBack(x, 255);
        Due.due("plies", x.plies(), 0);
        Due.due("nothing left to take back", x.back(), false);
        spent("half and half", x);
        Arbiter y = new Arbiter();
        String before = Boards.state(y);
        play(y, 0, 180);
        Walks.takeBack(y, 180);
        Due.due("all as before", Boards.state(y).equals(before), true);
    }

    private static void fiveTimesLateInAGame() {
        Arbiter x = new Arbiter();
        int plies = 13 * STEPS.length;
        play(x, 0, plies);
        Due.due("once at " + plies, x.claims(), 0);
        Walks.knightsDance(x, 1);
        Due.due("twice", x.claims(), 0);
        Walks.knightsDance(x, 1);
        Due.due("three times", x.claims(), 1);
        Walks.knightsDance(x, 1);
        Due.due("four times", x.verdict(), 0);
        Walks.knightsDance(x, 1);
        Due.due("five times", x.verdict(), 4);
        Due.due("over", Boards.play(x, "g1f3"), MateArbiter.OVER);
        Due.due("plies", x.plies(), plies + 16);
        Due.due("clock", x.clock(), 16);
    }

    private static void backAndForthAtOnePly() {
        Arbiter x = new Arbiter();
        while (x.left() > 2) {
            Due.due("move", x.move(12, 28, 0), 0);
            Due.due("back", x.back(), true);
        }
        Due.due("claims", x.claims(), 0);
        Due.due("plies", x.plies(), 0);
        spent("back and forth", x);
    }

    private static void manyGames() {
        Arbiter x = new Arbiter();
        while (x.left() > 8) {
            x.clear();
            Due.due("put", x.put(0, 6) && x.put(63, 14) && x.put(8, 1), true);
            Due.due("start", x.start(0, 0, -1), 0);
            Due.due("move", x.move(8, 24, 0), 0);
            Due.due("plies", x.plies(), 1);
            Due.due("passant", x.passant(), 16);
        }
        while (x.left() > 1) {
            x.standard();
        }
        Due.due("moves", x.moves(), 20);
        spent("many games", x);
    }

    private static void eachCallAgainAndAgain() {
        Arbiter[] all = new Arbiter[13];
        for (int i = 0; i < all.length; i++) {
            all[i] = new Arbiter();
        }
        for (int call = 0; call < CALLS; call++) {
            all[0].standard();
            all[1].clear();
            Due.due("put", all[2].put(20, 1), false);
            Due.due("start", all[3].start(0, 15, -1), -1);
            Due.due("move", all[4].move(12, 36, 0), -1);
            Due.due("back", all[5].back(), false);
            Due.due("piece", all[6].piece(call % 64 % 8 + 48), 9);
            Due.due("legal", all[7].legal(0), 1 + 64 * 16);
            Due.due("attackers", all[8].attackers(21, 0), 3);
            Due.due("verdict", all[9].verdict(), 0);
            Due.due("claims", all[10].claims(), 0);
            Due.due("search", all[11].search(call % 3), 0);
            Due.due("check", all[12].check(), false);
        }
        for (int i = 0; i < all.length; i++) {
            spent("call " + i, all[i]);
        }
    }

    // The 512th call of each kind that changes something or looks far.
    private static void lastCallIsPromised() {
        Due.due("move", Boards.play(almostSpent(), moveAt(300)), 0);
        Due.due("back", almostSpent().back(), true);
        Due.due("plies", almostSpent().plies(), 300);
        Due.due("moves", almostSpent().legal(almostSpent().moves()), -1);
        Due.due("put", almostSpent().put(20, 1), false);
        Due.due("start", almostSpent().start(0, 15, -1), -1);
        Due.due("clock", almostSpent().clock(), 300 % 13);
        Due.due("claims", almostSpent().claims(), 0);
        Due.due("search", almostSpent().search(2), 0);
        Due.due("side", almostSpent().side(), 0);
    }

    private static Arbiter almostSpent() {
        Arbiter x = new Arbiter();
        play(x, 0, 300);
        while (x.left() > 1) {
            x.piece(0);
        }
        return x;
    }
}
