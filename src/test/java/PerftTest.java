/** Counts of positions that are well known, for all kinds of moves at once (promises 6, 7, 12, 13). */
public final class PerftTest {
    public static void main(String[] args) {
        count("rnbqkbnr/pppppppp/8/8/8/8/PPPPPPPP/RNBQKBNR w KQkq -", 20, 400, 8902);
        count("r3k2r/p1ppqpb1/bn2pnp1/3PN3/1p2P3/2N2Q1p/PPPBBPPP/R3K2R w KQkq -", 48, 2039, 97862);
        count("8/2p5/3p4/KP5r/1R3p1k/8/4P1P1/8 w - -", 14, 191, 2812);
        count("r3k2r/Pppp1ppp/1b3nbN/nP6/BBP1P3/q4N2/Pp1P2PP/R2Q1RK1 w kq -", 6, 264, 9467);
        count("r2q1rk1/pP1p2pp/Q4n2/bbp1p3/Np6/1B3NBn/pPPP1PPP/R3K2R b KQ -", 6, 264, 9467);
        count("rnbq1k1r/pp1Pbppp/2p5/8/2B5/8/PPP1NnPP/RNBQK2R w KQ -", 44, 1486, 62379);
        count("r4rk1/1pp1qppp/p1np1n2/2b1p1B1/2B1P1b1/P1NP1N2/1PP1QPPP/R4RK1 w - -", 46, 2079, 89890);
        count("n1n5/PPPk4/8/8/8/8/4Kppp/5N1N b - -", 24, 496, 9483);
        Due.finish();
    }

    private static void count(String fen, long one, long two, long three) {
        Arbiter x = Boards.game(fen);
        Due.due(fen + " one ply", x.moves(), one);
        long replies = 0;
        long third = 0;
        for (int i = 0; i < one; i++) {
            int first = x.legal(i);
            Arbiter y = Boards.game(fen);
            Due.due(fen + " makes " + first, make(y, first), 0);
            int count = y.moves();
            replies += count;
            for (int j = 0; j < count; j++) {
                int second = y.legal(j);
                Due.due(fen + " makes " + second + " behind " + first, make(y, second), 0);
                third += y.moves();
                y.back();
            }
        }
        Due.due(fen + " two plies", replies, two);
        Due.due(fen + " three plies", third, three);
    }

    private static int make(Arbiter x, int code) {
        return x.move(code % 64, code / 64 % 64, code / 4096);
    }
}
