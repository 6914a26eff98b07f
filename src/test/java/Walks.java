/** Long ways for both sides on which no position comes again before it should. */
final class Walks {
    private static final String[] WHITE_ROOK = "b1 c1 d1 e1 f1 g1 g2 f2 e2 d2 c2 a2 a1".split(" ");
    private static final String[] BLACK_ROOK = "b8 c8 d8 e8 f8 a8".split(" ");

    private Walks() {
    }

    /** Two rooks with their kings, and white's pawn on b3 that none of them meets. */
    static Arbiter rooks() {
        return Boards.game("r7/7k/8/8/8/1P6/7K/R7 w - -");
    }

    /** The n-th step (from 0) of a piece that goes round; it begins on the last stop. */
    private static void step(Arbiter x, String[] stops, int n) {
        String from = stops[(n + stops.length - 1) % stops.length];
        String to = stops[n % stops.length];
        Due.due("step " + n + " of a round, " + from + to, Boards.play(x, from + to), 0);
    }

    /** Two pieces go round in turn, the first one at even plies. */
    static void rounds(Arbiter x, String[] first, String[] second, int firstPly, int plies) {
        for (int ply = firstPly; ply < firstPly + plies; ply++) {
            step(x, ply % 2 == 0 ? first : second, ply / 2);
        }
    }

    /** Rounds of 13 and of 6 stops: no position comes again within 156 plies. */
    static void walk(Arbiter x, int firstPly, int plies) {
        rounds(x, WHITE_ROOK, BLACK_ROOK, firstPly, plies);
    }

    static Arbiter walked(int plies) {
        Arbiter x = rooks();
        walk(x, 0, plies);
        return x;
    }

    /** Each round brings back the position that it began with. */
    static void kingsDance(Arbiter x, int times) {
        for (int i = 0; i < times; i++) {
            Boards.playAll(x, "h2h3 h7h6 h3h2 h6h7");
        }
    }

    static void knightsDance(Arbiter x, int times) {
        for (int i = 0; i < times; i++) {
            Boards.playAll(x, "g1f3 g8f6 f3g1 f6g8");
        }
    }

    static void takeBack(Arbiter x, int times) {
        for (int i = 0; i < times; i++) {
            Due.due("back(), " + (i + 1) + " of " + times, x.back(), true);
        }
    }
}
