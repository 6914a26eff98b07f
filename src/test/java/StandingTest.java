/** Promises 14 to 16: attackers, check, verdict; and, by claims, which positions are alike. */
public final class StandingTest {
    public static void main(String[] args) {
        promise14Attackers();
        promise14AttackersWhileSettingUp();
        promise15Check();
        promise16MateAndStalemate();
        promise16Dead();
        promise16Order();
        alikeByRights();
        alikeByPassant();
        alikeByPassantThatNoPawnMayTake();
        alikeByPassantThatAPawnMayTake();
        alikeBySide();
        Due.finish();
    }

    private static void attacked(String pieces, String square, int white, int black) {
        Arbiter x = Boards.pieces(pieces);
        Due.due(pieces + ": " + square + " by white", x.attackers(Boards.square(square), 0), white);
        Due.due(pieces + ": " + square + " by black", x.attackers(Boards.square(square), 1), black);
    }

    private static void promise14Attackers() {
        Arbiter x = new Arbiter();
        Due.due("f3 by white", x.attackers(21, 0), 3);
        Due.due("f6 by black", x.attackers(45, 1), 3);
        Due.due("e2 by white: own pieces do not matter", x.attackers(12, 0), 4);
        Due.due("e4 by white: pawns attack aslant alone", x.attackers(28, 0), 0);
        Due.due("h1 by white: a piece does not attack its own square", x.attackers(7, 0), 0);
        Due.due("a1 by black", x.attackers(0, 1), 0);
        Arbiter pinned = Boards.game("k3r3/8/8/8/8/8/4B3/4K3 w - -");
        Due.due("a pinned bishop attacks too", pinned.attackers(Boards.square("d3"), 0), 1);
        Due.due("through the bishop", pinned.attackers(Boards.square("e1"), 1), 0);
        Due.due("the side to move does not matter", pinned.attackers(Boards.square("e2"), 1), 1);
        Due.due("the king's own bishop", pinned.attackers(Boards.square("e2"), 0), 1);
    }

    private static void promise14AttackersWhileSettingUp() {
        attacked("8/8/8/3P4/8/8/8/8", "c6", 1, 0);
        attacked("8/8/8/3P4/8/8/8/8", "e6", 1, 0);
        attacked("8/8/8/3P4/8/8/8/8", "d6", 0, 0);
        attacked("8/8/8/3P4/8/8/8/8", "c4", 0, 0);
        attacked("8/8/8/3p4/8/8/8/8", "c4", 0, 1);
        attacked("8/8/8/3p4/8/8/8/8", "e4", 0, 1);
        attacked("8/8/8/3p4/8/8/8/8", "e6", 0, 0);
        attacked("8/8/8/8/7P/8/8/8", "a6", 0, 0);
        attacked("8/8/8/8/7P/8/8/8", "a5", 0, 0);
        attacked("8/8/8/P7/8/8/8/8", "h5", 0, 0);
        attacked("8/8/8/P7/8/8/8/8", "h6", 0, 0);
        attacked("8/8/8/8/8/8/8/P7", "b2", 1, 0);
        attacked("P7/8/8/8/8/8/8/8", "b7", 0, 0);
        attacked("p7/8/8/8/8/8/8/8", "b7", 0, 1);
        attacked("8/8/8/8/3N4/8/8/8", "e6", 1, 0);
        attacked("8/8/8/8/3n4/8/8/8", "b3", 0, 1);
        attacked("8/8/8/8/7N/8/8/8", "a3", 0, 0);
        attacked("8/8/8/8/7N/8/8/8", "b5", 0, 0);
        attacked("8/8/8/8/3B4/8/8/8", "h8", 1, 0);
        attacked("8/8/5p2/8/3B4/8/8/8", "h8", 0, 0);
        attacked("8/8/5p2/8/3B4/8/8/8", "f6", 1, 0);
        attacked("8/8/8/8/3B4/8/8/8", "d5", 0, 0);
        attacked("8/8/8/8/R6r/8/8/8", "d4", 1, 1);
        attacked("8/8/8/8/R6r/8/8/8", "a4", 0, 1);
        attacked("8/8/8/8/RR5r/8/8/8", "d4", 1, 1);
        attacked("8/8/8/8/R6r/8/8/8", "d5", 0, 0);
        attacked("8/8/8/8/3Q4/8/8/8", "d8", 1, 0);
        attacked("8/8/8/8/3Q4/8/8/8", "a1", 1, 0);
        attacked("8/8/8/8/3Q4/8/8/8", "e6", 0, 0);
        attacked("8/8/8/8/3K4/8/8/8", "e5", 1, 0);
        attacked("8/8/8/8/3K4/8/8/8", "d5", 1, 0);
        attacked("8/8/8/8/3K4/8/8/8", "d6", 0, 0);
        attacked("8/8/8/8/K7/8/8/8", "h4", 0, 0);
        attacked("8/8/8/8/K7/8/8/8", "h5", 0, 0);
        attacked("8/8/8/8/K7/8/8/8", "h3", 0, 0);
        attacked("8/8/8/2kkk3/2k1k3/2kkk3/8/8", "d4", 0, 8);
        attacked("8/2N1N3/1NQQQN2/2QkQ3/1NQQQN2/2N1N3/8/8", "d5", 16, 0);
        Arbiter empty = Boards.empty();
        Due.due("nothing attacks", empty.attackers(0, 0), 0);
    }

    private static void checks(String fen, boolean want) {
        Due.due("check of " + fen, Boards.game(fen).check(), want);
    }

    private static void promise15Check() {
        Due.due("check at first", new Arbiter().check(), false);
        checks("4k3/8/8/8/8/8/4q3/4K3 w - -", true);
        checks("4k3/8/8/8/4r3/8/8/4K3 w - -", true);
        checks("4k3/8/8/8/4r3/4P3/8/4K3 w - -", false);
        checks("4k3/8/8/8/7b/8/8/4K3 w - -", true);
        checks("4k3/8/8/8/8/3n4/8/4K3 w - -", true);
        checks("4k3/8/8/8/8/8/3p4/4K3 w - -", true);
        checks("4k3/8/8/8/8/8/4p3/4K3 w - -", false);
        checks("4k3/3P4/8/8/8/8/8/4K3 b - -", true);
        checks("4k3/4P3/8/8/8/8/8/4K3 b - -", false);
        checks("4k3/8/8/8/4R3/8/8/4K3 b - -", true);
        Arbiter x = Boards.game("4k3/8/8/8/8/8/8/R3K3 w Q -");
        Boards.playAll(x, "a1a8");
        Due.due("check by a move", x.check(), true);
        Boards.playAll(x, "e8d7");
        Due.due("the mover's side is not looked at", x.check(), false);
        x.back();
        Due.due("check again", x.check(), true);
        Arbiter y = Boards.pieces("4k3/8/8/8/8/8/4q3/4K3");
        Due.due("check while setting up", y.check(), false);
    }

    private static void stands(String fen, int want) {
        Due.due("verdict of " + fen, Boards.game(fen).verdict(), want);
    }

    private static void promise16MateAndStalemate() {
        Due.due("verdict at first", new Arbiter().verdict(), 0);
        stands("R5k1/5ppp/8/8/8/8/8/4K3 b - -", 1);
        stands("R5k1/6pp/8/8/8/8/8/4K3 b - -", 0);
        stands("6rk/5Npp/8/8/8/8/8/4K3 b - -", 1);
        stands("8/8/8/8/8/5k2/6q1/6K1 w - -", 1);
        stands("7k/5Q2/6K1/8/8/8/8/8 b - -", 2);
        stands("8/8/8/8/8/4k1q1/8/7K w - -", 2);
        stands("7k/5Q2/6K1/8/8/8/7p/8 b - -", 0);
        stands("k7/P7/1K6/8/8/8/8/8 b - -", 2);
    }

    private static void promise16Dead() {
        stands("4k3/8/8/8/8/8/8/4K3 w - -", 3);
        stands("4k3/8/8/8/8/8/8/2B1K3 w - -", 3);
        stands("4k3/8/8/8/8/8/8/1N2K3 w - -", 3);
        stands("2b1k3/8/8/8/8/8/8/4K3 b - -", 3);
        stands("1n2k3/8/8/8/8/8/8/4K3 b - -", 3);
        stands("4k3/8/8/8/8/8/P7/4K3 w - -", 0);
        stands("4k3/8/8/8/8/8/R7/4K3 w - -", 0);
        stands("4k3/8/8/8/8/8/Q7/4K3 w - -", 0);
        stands("4k3/8/8/8/8/8/1NN5/4K3 w - -", 0);
        stands("4k3/8/8/8/8/8/1NB5/4K3 w - -", 0);
        stands("4k3/2n5/8/8/8/8/1N6/4K3 w - -", 0);
        stands("4k3/2n5/8/8/8/8/1B6/4K3 w - -", 0);
        stands("4k3/8/8/8/8/8/1B6/2B1K3 w - -", 0);
        stands("4k3/8/8/8/8/2B5/1B6/4K3 w - -", 0);
        stands("4k3/8/8/8/8/2b5/1b6/3K4 w - -", 0);
        stands("4k3/8/1b6/8/8/8/1B6/4K3 w - -", 3);
        stands("4k3/b7/8/8/8/8/1B6/4K3 w - -", 3);
        stands("4k3/8/b7/8/8/8/2B5/4K3 w - -", 3);
        stands("4k3/8/b7/8/8/8/1B6/4K3 w - -", 0);
        stands("4k3/8/1b6/8/8/8/2B5/4K3 w - -", 0);
        stands("4k3/8/1b6/8/8/8/3B4/1B2K3 w - -", 0);
        stands("4k3/8/1b6/b7/8/8/1B6/3K4 w - -", 0);
        stands("4k3/8/1b6/8/8/8/1B5N/4K3 w - -", 0);
        stands("4k3/n7/1b6/8/8/8/1B6/4K3 w - -", 0);
    }

    // Mate before the clock and five times before the clock: CountTest.
    private static void promise16Order() {
        stands("k7/2B5/1K6/8/8/8/8/8 b - -", 2);
        stands("k7/2N5/K7/8/8/8/8/8 b - -", 3);
        stands("k7/8/K1N5/8/8/8/8/8 b - -", 2);
    }

    private static void alikeByRights() {
        Arbiter x = Boards.game("r3k2r/8/8/8/8/8/8/R3K2R w KQkq -");
        for (int i = 0; i < 3; i++) {
            Due.due("round " + i + ": claims", x.claims(), 0);
            Boards.playAll(x, "h1g1 h8g8 g1h1 g8h8");
        }
        Due.due("three times with the rights left", x.claims(), 1);
    }

    private static void alikeByPassant() {
        Arbiter x = Boards.game("4k1n1/3p4/8/4P3/8/8/8/4K1N1 b - -");
        Boards.playAll(x, "d7d5");
        for (int i = 0; i < 3; i++) {
            Due.due("round " + i + ": claims", x.claims(), 0);
            Boards.playAll(x, "g1f3 g8f6 f3g1 f6g8");
        }
        Due.due("three times without passant square", x.claims(), 1);
        Arbiter first = Boards.game("4k1n1/8/8/3pP3/8/8/8/4K1N1 w - d6");
        Walks.knightsDance(first, 2);
        Due.due("passant square of the first position", first.claims(), 0);
        Walks.knightsDance(first, 1);
        Due.due("three times behind it", first.claims(), 1);
    }

    private static void alikeByPassantThatNoPawnMayTake() {
        Arbiter none = Boards.game("4k1n1/3p4/8/8/8/8/8/4K1N1 b - -");
        Boards.playAll(none, "d7d5");
        Walks.knightsDance(none, 2);
        Due.due("no pawn is near", none.claims(), 1);
        Arbiter knight = Boards.game("4k1n1/3p4/8/8/2N5/8/8/4K1N1 b - -");
        Boards.playAll(knight, "d7d5");
        Due.due("a knight can go there", Boards.lists(knight, "c4d6"), true);
        Walks.knightsDance(knight, 2);
        Due.due("a knight does not count", knight.claims(), 1);
        Arbiter pinned = Boards.game("4r1k1/3p4/8/4P3/8/8/8/4K1N1 b - -");
        Boards.playAll(pinned, "d7d5");
        Due.due("passant", pinned.passant(), 43);
        Due.due("the pawn is pinned", Boards.lists(pinned, "e5d6"), false);
        Boards.playAll(pinned, "g1f3 g8h8 f3g1 h8g8 g1f3 g8h8 f3g1 h8g8");
        Due.due("a pinned pawn does not count", pinned.claims(), 1);
        String first = "4r1k1/8/8/3pP3/8/8/8/4K1N1 w - d6";
        comesAgain(first, "", "g1f3 g8h8 f3g1 h8g8", "pinned in the first position", 1);
        String inLine = "6k1/3p4/8/K3P2r/8/8/8/8 b - -";
        comesAgain(inLine, "d7d5", "a5a4 g8h8 a4a5 h8g8", "both pawns would leave the rank", 1);
        String uncovered = "4b1k1/3p4/8/4P3/K7/8/8/8 b - -";
        comesAgain(uncovered, "d7d5", "a4a3 e8f7 a3a4 f7e8", "taking would not end the check", 1);
    }

    private static void alikeByPassantThatAPawnMayTake() {
        String aslant = "6k1/3p4/8/4P3/8/8/8/B3K3 b - -";
        comesAgain(aslant, "d7d5", "e1d1 g8h8 d1e1 h8g8", "a pawn may take", 0);
        String either = "6k1/3p4/8/2P1P3/8/8/8/4K3 b - -";
        comesAgain(either, "d7d5", "e1d1 g8h8 d1e1 h8g8", "two pawns may take", 0);
        String onePinned = "4r1k1/3p4/8/2P1P3/8/8/8/4K3 b - -";
        comesAgain(onePinned, "d7d5", "e1d1 g8h8 d1e1 h8g8", "one of two is pinned", 0);
        String black = "6k1/8/8/8/3p4/8/4P3/4K3 w - -";
        comesAgain(black, "e2e4", "g8h8 e1d1 h8g8 d1e1", "black may take", 0);
        comesAgain("6k1/8/8/8/3p4/8/5P2/4K3 w - -", "f2f4", "g8h8 e1d1 h8g8 d1e1", "black is too far away", 1);
    }

    // Two rounds: three times the position if the one with the passant square is alike, else twice.
    private static void comesAgain(String fen, String step, String round, String what, int want) {
        Arbiter x = Boards.game(fen);
        if (!step.isEmpty()) {
            Boards.playAll(x, step);
        }
        Due.due(what + ": there is a passant square", x.passant() >= 0, true);
        Boards.playAll(x, round);
        Due.due(what + ": twice at most", x.claims(), 0);
        Boards.playAll(x, round);
        Due.due(what, x.claims(), want);
        Boards.playAll(x, round);
        Due.due(what + ": three times at least", x.claims(), 1);
    }

    private static void alikeBySide() {
        Arbiter x = Boards.game("4k3/8/8/8/8/8/R7/4K3 w - -");
        Boards.playAll(x, "a2a3 e8d8 a3a1 d8e8 a1a2 e8d8 a2b2 d8d7 b2a2 d7e8");
        Due.due("twice with white to move, once with black", x.claims(), 0);
        Boards.playAll(x, "a2b2 e8d8 b2a2 d8e8");
        Due.due("three times with white to move", x.claims(), 1);
    }
}
