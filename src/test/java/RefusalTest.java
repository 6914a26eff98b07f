import java.util.ArrayList;
import java.util.List;
import java.util.function.Supplier;
import java.util.function.ToLongFunction;

/** Every refused call changes nothing: what all other calls answer before it, they answer behind it. */
public final class RefusalTest {
    private static final int BAD = MateArbiter.BAD;
    private static final int OVER = MateArbiter.OVER;

    /** A call that must be refused, and its answer (0 for false). */
    private static final class Refused {
        final String name;
        final long due;
        final ToLongFunction<Arbiter> call;

        Refused(String name, long due, ToLongFunction<Arbiter> call) {
            this.name = name;
            this.due = due;
            this.call = call;
        }
    }

    private final List<Refused> calls = new ArrayList<>();

    public static void main(String[] args) {
        inGames();
        inEndedGames();
        whileSettingUp();
        Due.finish();
    }

    private static void inGames() {
        game("new", Arbiter::new);
        game("standard", RefusalTest::standardBehindAnotherGame);
        game("passant can be taken", () -> played("e2e4 a7a6 e4e5 d7d5"));
        game("both castled", () -> played("g1f3 g8f6 g2g3 g7g6 f1g2 f8g7 e1g1 e8g8"));
        game("rights lost", () -> played("e2e4 e7e5 e1e2 a7a6 e2e1"));
        game("in check", () -> played("e2e4 f7f6 d1h5"));
        game("promoted", () -> played("1n5k/P7/8/8/8/8/8/K7 w - -", "a7b8q"));
        game("started, black to move", () -> Boards.game("4k3/8/8/8/pPp5/8/8/4K3 b - b3"));
        game("all taken back", RefusalTest::allTakenBack);
        game("three times", () -> danced(2));
        game("four times", () -> danced(3));
        game("clock at 100", () -> Walks.walked(100));
        game("clock at 149", () -> Walks.walked(149));
    }

    private static void inEndedGames() {
        ended("mate", 1, () -> played("f2f3 e7e5 g2g4 d8h4"));
        ended("mate at the start", 1, () -> Boards.game("R5k1/5ppp/8/8/8/8/8/4K3 b - -"));
        ended("stalemate", 2, () -> played("7k/8/6K1/8/8/8/8/5Q2 w - -", "f1f7"));
        ended("dead", 3, () -> played("4k3/8/8/8/8/8/3p4/4K3 w - -", "e1d2"));
        ended("dead at the start", 3, () -> Boards.game("4k3/8/8/8/8/8/8/4K2N w - -"));
        ended("five times", 4, () -> danced(4));
        ended("clock at 150", 5, () -> Walks.walked(150));
    }

    private static void whileSettingUp() {
        settingUp("cleared", MateArbiter.MEN, () -> Boards.pieces("8/8/8/8/8/8/8/8"));
        settingUp("cleared in a game", MateArbiter.MEN, RefusalTest::clearedInAGame);
        settingUp("one king", MateArbiter.MEN, () -> Boards.pieces("8/8/8/8/8/8/8/4K3"));
        settingUp("17 men", MateArbiter.MEN, () -> Boards.pieces("4k3/8/8/8/8/NNNNNNNN/PPPPPPPP/4K3"));
        settingUp("a pawn on the first rank", MateArbiter.PAWNS, () -> Boards.pieces("4k3/8/8/8/8/8/8/P3K3"));
        settingUp("check", MateArbiter.CHECK, () -> Boards.pieces("4k3/8/8/8/8/8/4R3/4K3"));
        settingUp("no rooks", MateArbiter.RIGHTS, () -> Boards.pieces("4k3/8/8/8/8/8/8/4K3"));
        settingUp("no pawn", MateArbiter.PASSANT, () -> Boards.pieces("r3k2r/8/8/8/8/8/8/R3K2R"));
    }

    private static Arbiter played(String moves) {
        Arbiter x = new Arbiter();
        Boards.playAll(x, moves);
        return x;
    }

    private static Arbiter played(String fen, String moves) {
        Arbiter x = Boards.game(fen);
        Boards.playAll(x, moves);
        return x;
    }

    private static Arbiter danced(int times) {
        Arbiter x = new Arbiter();
        Walks.knightsDance(x, times);
        return x;
    }

    private static Arbiter standardBehindAnotherGame() {
        Arbiter x = Boards.game("4k3/8/8/8/8/8/8/4K2R b K -");
        Boards.playAll(x, "e8e7 h1h8");
        x.standard();
        return x;
    }

    private static Arbiter allTakenBack() {
        Arbiter x = played("e2e4 d7d5 e4d5 d8d5");
        Walks.takeBack(x, 4);
        return x;
    }

    private static Arbiter clearedInAGame() {
        Arbiter x = played("e2e4 e7e5 g1f3");
        x.clear();
        return x;
    }

    private static void game(String name, Supplier<Arbiter> state) {
        RefusalTest test = new RefusalTest();
        test.refuseSettingUp();
        test.refuseMoves(state.get(), BAD);
        test.refuseBack(state.get());
        test.refuseNumbers(state.get().moves());
        test.tryAll(name, state);
    }

    private static void ended(String name, int verdict, Supplier<Arbiter> state) {
        Due.due(name + ": verdict()", state.get().verdict(), verdict);
        RefusalTest test = new RefusalTest();
        test.refuseSettingUp();
        test.refuseMoves(state.get(), OVER);
        test.refuseLegalMoves(state.get());
        test.refuseBack(state.get());
        test.refuseNumbers(state.get().moves());
        test.tryAll(name, state);
    }

    private static void settingUp(String name, int code, Supplier<Arbiter> state) {
        RefusalTest test = new RefusalTest();
        test.refusePut(-1, 1);
        test.refusePut(64, 1);
        test.refusePut(Integer.MIN_VALUE, 0);
        test.refusePut(4, 7);
        test.refusePut(4, 8);
        test.refusePut(60, 15);
        test.refusePut(60, -1);
        test.refuseStart(-1, 0, -1, BAD);
        test.refuseStart(2, 15, 63, BAD);
        test.refuseStart(0, -1, -1, BAD);
        test.refuseStart(0, 16, -1, BAD);
        test.refuseStart(0, 0, -2, BAD);
        test.refuseStart(0, 0, 64, BAD);
        test.refuseStart(0, 15, 44, code);
        test.refuseMove(4, 12, 0, BAD);
        test.refuseMove(12, 28, 0, BAD);
        test.refuse("back()", 0, x -> x.back() ? 1 : 0);
        test.refuseNumbers(0);
        test.tryAll(name, state);
    }

    private void refuse(String name, long due, ToLongFunction<Arbiter> call) {
        calls.add(new Refused(name, due, call));
    }

    private void refusePut(int square, int piece) {
        refuse("put(" + square + ", " + piece + ")", 0, x -> x.put(square, piece) ? 1 : 0);
    }

    private void refuseStart(int side, int rights, int passant, int due) {
        refuse("start(" + side + ", " + rights + ", " + passant + ")", due, x -> x.start(side, rights, passant));
    }

    private void refuseMove(int from, int to, int promotion, int due) {
        refuse("move(" + from + ", " + to + ", " + promotion + ")", due, x -> x.move(from, to, promotion));
    }

    private void refuseSettingUp() {
        refusePut(20, 1);
        refusePut(4, 0);
        refusePut(60, 5);
        refusePut(64, 1);
        refusePut(20, 7);
        refuseStart(0, 15, -1, BAD);
        refuseStart(1, 0, -1, BAD);
        refuseStart(2, 0, -1, BAD);
        refuseStart(0, 16, -1, BAD);
        refuseStart(1, 0, 64, BAD);
    }

    // An own piece is asked for a promotion that is never right, any other square for a plain move.
    private void refuseMoves(Arbiter x, int due) {
        refuseMove(-1, 20, 0, due);
        refuseMove(64, 20, 0, due);
        refuseMove(Integer.MIN_VALUE, Integer.MAX_VALUE, 7, due);
        int side = x.side();
        for (int square = 0; square < 64; square += 3) {
            int piece = x.piece(square);
            boolean isOwn = piece != 0 && piece / 8 == side;
            refuseMove(square, square, 0, due);
            refuseMove(square, 64, 0, due);
            refuseMove(square, -1, 0, due);
            refuseMove(square, square ^ 1, isOwn ? 6 : 0, due);
            refuseMove(square, square ^ 8, isOwn ? 1 : 0, due);
        }
    }

    private void refuseLegalMoves(Arbiter x) {
        int count = x.moves();
        for (int i = 0; i < count; i++) {
            int code = x.legal(i);
            refuseMove(code % 64, code / 64 % 64, code / 4096, OVER);
        }
    }

    private void refuseBack(Arbiter x) {
        if (x.plies() == 0) {
            refuse("back()", 0, y -> y.back() ? 1 : 0);
        }
    }

    private void refuseNumbers(int moves) {
        refuse("piece(-1)", BAD, x -> x.piece(-1));
        refuse("piece(64)", BAD, x -> x.piece(64));
        refuse("legal(-1)", BAD, x -> x.legal(-1));
        refuse("legal(" + moves + ")", BAD, x -> x.legal(moves));
        refuse("attackers(-1, 0)", BAD, x -> x.attackers(-1, 0));
        refuse("attackers(64, 1)", BAD, x -> x.attackers(64, 1));
        refuse("attackers(0, 2)", BAD, x -> x.attackers(0, 2));
        refuse("attackers(0, -1)", BAD, x -> x.attackers(0, -1));
        refuse("search(-1)", -10000, x -> x.search(-1));
        refuse("search(3)", -10000, x -> x.search(3));
    }

    private void tryAll(String name, Supplier<Arbiter> state) {
        String attacked = attacked(state.get());
        String before = backward(state.get());
        String ahead = forward(state.get());
        for (Refused refused : calls) {
            String what = name + ": " + refused.name;
            Arbiter x = state.get();
            String now = answers(x);
            Due.due(what, refused.call.applyAsLong(x), refused.due);
            same(what + " leaves the answers", answers(x), now);
            same(what + " leaves the attackers", attacked(x), attacked);
            Arbiter y = state.get();
            Due.due(what, refused.call.applyAsLong(y), refused.due);
            same(what + " leaves the moves that were made", backward(y), before);
            Arbiter z = state.get();
            Due.due(what, refused.call.applyAsLong(z), refused.due);
            same(what + " leaves what can follow", forward(z), ahead);
        }
    }

    private static void same(String what, String got, String want) {
        Due.due(what, got.equals(want), true);
    }

    private static String answers(Arbiter x) {
        StringBuilder text = new StringBuilder(Boards.state(x));
        int count = x.moves();
        for (int i = 0; i < count; i++) {
            text.append(' ').append(x.legal(i));
        }
        for (int depth = 0; depth <= 2; depth++) {
            text.append(' ').append(x.search(depth));
        }
        return text.toString();
    }

    private static String attacked(Arbiter x) {
        StringBuilder text = new StringBuilder();
        for (int square = 0; square < 64; square++) {
            text.append(x.attackers(square, 0)).append(' ').append(x.attackers(square, 1)).append(' ');
        }
        return text.toString();
    }

    private static String backward(Arbiter x) {
        int times = 0;
        while (times <= 150 && x.back()) {
            times++;
        }
        return times + " moves back: " + answers(x);
    }

    private static String forward(Arbiter x) {
        if (x.side() < 0) {
            boolean added = x.put(27, 13);
            return added + " " + x.start(0, 0, -1) + " " + x.start(1, 0, -1) + " " + answers(x);
        }
        int code = x.legal(x.moves() / 2);
        int answer = code < 0 ? BAD : x.move(code % 64, code / 64 % 64, code / 4096);
        return code + " answered " + answer + ": " + answers(x);
    }
}
