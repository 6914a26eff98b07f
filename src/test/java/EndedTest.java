/** What the calls answer when verdict() is not 0: a game that has ended is on, and back() opens it again. */
public final class EndedTest {
    public static void main(String[] args) {
        mate();
        byTwoRanks("mate by a pawn", "8/8/2Q5/k7/8/2K5/1P6/8 w - -", "8/8/2Q5/k7/2p5/2K5/1P6/8 w - -", 1);
        stalemate();
        byTwoRanks("stalemate by a pawn", "1R6/8/k7/8/8/8/1P6/6BK w - -", "1R6/8/k7/8/2p5/2P5/1P6/6BK w - -", 2);
        stalemateAtClock150();
        dead();
        deadInCheck();
        fiveTimes();
        fiveTimesInCheck();
        clock150();
        clock150InCheck();
        Due.finish();
    }

    private static void stands(String when, Arbiter x, int side, int rights, int passant) {
        Due.due(when + ": side()", x.side(), side);
        Due.due(when + ": rights()", x.rights(), rights);
        Due.due(when + ": passant()", x.passant(), passant);
    }

    private static void counts(String when, Arbiter x, int plies, int clock, int claims) {
        Due.due(when + ": plies()", x.plies(), plies);
        Due.due(when + ": clock()", x.clock(), clock);
        Due.due(when + ": claims()", x.claims(), claims);
    }

    private static void values(String when, Arbiter x, int zero, int one, int two) {
        Due.due(when + ": search(0)", x.search(0), zero);
        Due.due(when + ": search(1)", x.search(1), one);
        Due.due(when + ": search(2)", x.search(2), two);
    }

    private static void hasNoMove(String when, Arbiter x, boolean check) {
        Due.due(when + ": check()", x.check(), check);
        Due.due(when + ": moves()", x.moves(), 0);
        Due.due(when + ": legal(0)", x.legal(0), MateArbiter.BAD);
    }

    /** By white's pawn that goes from b2 to b4; with a pawn of black on c4 there is one move left. */
    private static void byTwoRanks(String when, String fen, String withPawn, int verdict) {
        Arbiter x = Boards.game(fen);
        Boards.playAll(x, "b2b4");
        stands(when, x, 1, 0, 17);
        hasNoMove(when, x, verdict == 1);
        isOver(when, x, verdict);
        Arbiter y = Boards.game(withPawn);
        Boards.playAll(y, "b2b4");
        Due.due(when + " but for a pawn: verdict()", y.verdict(), 0);
        Due.due(when + " but for a pawn: moves()", y.moves(), 1);
        Due.due(when + " but for a pawn: legal(0)", y.legal(0), 26 + 64 * 17);
    }

    /** The game is over, but on until clear(), and goes on behind back(). */
    private static void isOver(String when, Arbiter x, int verdict) {
        Due.due(when + ": verdict()", x.verdict(), verdict);
        int code = Math.max(0, x.legal(0));
        Due.due(when + ": move", x.move(code % 64, code / 64 % 64, code / 4096), MateArbiter.OVER);
        Due.due(when + ": put", x.put(27, 0), false);
        Due.due(when + ": start", x.start(0, 0, -1), MateArbiter.BAD);
        Due.due(when + ": verdict() still", x.verdict(), verdict);
        int plies = x.plies();
        Due.due(when + ": back()", x.back(), plies > 0);
        if (plies > 0) {
            Due.due(when + ": verdict() behind back()", x.verdict(), 0);
            Due.due(when + ": plies() behind back()", x.plies(), plies - 1);
        }
    }

    private static void isLikeTwin(String when, Arbiter x, Arbiter twin) {
        Due.due(when + ": the twin's verdict()", twin.verdict(), 0);
        stands(when, x, twin.side(), twin.rights(), twin.passant());
        values(when, x, twin.search(0), twin.search(1), twin.search(2));
        Due.due(when + ": check()", x.check(), twin.check());
        int count = twin.moves();
        Due.due(when + ": moves()", x.moves(), count);
        for (int i = 0; i <= count; i++) {
            Due.due(when + ": legal(" + i + ")", x.legal(i), twin.legal(i));
        }
        for (int square = 0; square < 64; square++) {
            Due.due(when + ": piece(" + square + ")", x.piece(square), twin.piece(square));
            int side = square % 2;
            Due.due(when + ": attackers of " + square, x.attackers(square, side), twin.attackers(square, side));
        }
    }

    private static void mate() {
        Arbiter x = new Arbiter();
        Boards.playAll(x, "f2f3 e7e5 g2g4 d8h4");
        stands("mate", x, 0, 15, -1);
        counts("mate", x, 4, 1, 0);
        values("mate", x, 0, -1000, -1000);
        hasNoMove("mate", x, true);
        Due.due("mate: piece(31)", x.piece(31), 13);
        Due.due("mate: attackers(4, 1)", x.attackers(4, 1), 1);
        Due.due("mate: attackers(4, 0)", x.attackers(4, 0), 1);
        isOver("mate", x, 1);
    }

    private static void stalemate() {
        Arbiter x = Boards.game("7k/8/6K1/8/8/8/8/5Q2 w - -");
        Boards.playAll(x, "f1f7");
        stands("stalemate", x, 1, 0, -1);
        counts("stalemate", x, 1, 1, 0);
        values("stalemate", x, -9, 0, 0);
        hasNoMove("stalemate", x, false);
        Due.due("stalemate: piece(53)", x.piece(53), 5);
        Due.due("stalemate: attackers(62, 0)", x.attackers(62, 0), 1);
        Due.due("stalemate: attackers(62, 1)", x.attackers(62, 1), 1);
        isOver("stalemate", x, 2);
    }

    private static void stalemateAtClock150() {
        Arbiter x = Boards.game("7k/8/Q7/8/8/8/8/R6K b - -");
        String[] king = "g8 h7 h8".split(" ");
        String[] rook = "b1 c1 d1 e1 f1 f2 e2 d2 c2 a2 a1".split(" ");
        Walks.rounds(x, king, rook, 0, 149);
        Boards.playAll(x, "a6g6");
        counts("stalemate at 150", x, 150, 150, 2);
        isOver("stalemate at 150", x, 2);
    }

    private static void dead() {
        Arbiter x = Boards.game("4k3/8/8/8/8/8/3p4/4K3 w - -");
        Boards.playAll(x, "e1d2");
        stands("dead", x, 1, 0, -1);
        counts("dead", x, 1, 0, 0);
        values("dead", x, 0, 0, 0);
        Due.due("dead: check()", x.check(), false);
        Due.due("dead: moves()", x.moves(), 5);
        int[] to = {51, 52, 53, 59, 61};
        for (int i = 0; i < 5; i++) {
            Due.due("dead: legal(" + i + ")", x.legal(i), 60 + 64 * to[i]);
        }
        Due.due("dead: legal(5)", x.legal(5), MateArbiter.BAD);
        Due.due("dead: piece(11)", x.piece(11), 6);
        Due.due("dead: attackers(3, 0)", x.attackers(3, 0), 1);
        isOver("dead", x, 3);
    }

    private static void deadInCheck() {
        Arbiter x = Boards.game("7k/8/8/8/8/3n4/8/4K3 w - -");
        Due.due("dead in check: check()", x.check(), true);
        Due.due("dead in check: moves()", x.moves(), 4);
        Due.due("dead in check: legal(0)", x.legal(0), 4 + 64 * 3);
        values("dead in check", x, -3, -3, -3);
        isOver("dead in check", x, 3);
    }

    private static void fiveTimes() {
        Arbiter x = new Arbiter();
        Walks.knightsDance(x, 4);
        counts("five times", x, 16, 16, 1);
        isLikeTwin("five times", x, new Arbiter());
        isOver("five times", x, 4);
    }

    private static void fiveTimesInCheck() {
        String fen = "4k3/8/8/8/Q7/8/8/4K2R b K -";
        Arbiter x = Boards.game(fen);
        for (int i = 0; i < 4; i++) {
            Boards.playAll(x, "e8e7 a4a3 e7e8 a3a4");
        }
        counts("five times in check", x, 16, 16, 1);
        Due.due("five times in check: check()", x.check(), true);
        isLikeTwin("five times in check", x, Boards.game(fen));
        isOver("five times in check", x, 4);
    }

    private static void clock150() {
        Arbiter x = Walks.walked(150);
        counts("clock at 150", x, 150, 150, 2);
        isLikeTwin("clock at 150", x, Boards.twin(Walks.walked(150)));
        isOver("clock at 150", x, 5);
    }

    private static void clock150InCheck() {
        Arbiter x = Boards.game("7k/6pp/r7/6N1/R7/8/8/4K2R b K -");
        String[] black = "b6 c6 d6 d7 c7 a7 a6".split(" ");
        String[] white = "b4 c4 d4 f4 g4 a4".split(" ");
        Walks.rounds(x, black, white, 0, 149);
        Boards.playAll(x, "g5f7");
        counts("check at 150", x, 150, 150, 2);
        Due.due("check at 150: check()", x.check(), true);
        isLikeTwin("check at 150", x, Boards.game("7k/2r2Npp/8/8/2R5/8/8/4K2R b K -"));
        isOver("check at 150", x, 5);
    }
}
