/**
 * An object of the class that keeps count of its calls: nothing is promised behind the 512th, so a
 * test that asks more of one object would lean on answers that are free.
 */
final class Arbiter {
    static final int CALLS = 512;

    private final MateArbiter x = new MateArbiter();
    private int calls = 0;

    /** How many calls are left of those that are promised. */
    int left() {
        return CALLS - calls;
    }

    private MateArbiter call() {
        calls++;
        if (calls == CALLS + 1) {
            Due.due("calls of one object", calls, CALLS);
        }
        return x;
    }

    void standard() {
        call().standard();
    }

    void clear() {
        call().clear();
    }

    boolean put(int square, int piece) {
        return call().put(square, piece);
    }

    int start(int side, int rights, int passant) {
        return call().start(side, rights, passant);
    }

    int move(int from, int to, int promotion) {
        return call().move(from, to, promotion);
    }

    boolean back() {
        return call().back();
    }

    int piece(int square) {
        return call().piece(square);
    }

    int side() {
        return call().side();
    }

    int rights() {
        return call().rights();
    }

    int passant() {
        return call().passant();
    }

    int moves() {
        return call().moves();
    }

    int legal(int i) {
        return call().legal(i);
    }

    int attackers(int square, int side) {
        return call().attackers(square, side);
    }

    boolean check() {
        return call().check();
    }

    int verdict() {
        return call().verdict();
    }

    int claims() {
        return call().claims();
    }

    int clock() {
        return call().clock();
    }

    int plies() {
        return call().plies();
    }

    int search(int depth) {
        return call().search(depth);
    }
}
