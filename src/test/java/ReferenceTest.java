import java.util.Random;

/** Runs of calls drawn by lot (always the same ones) on the class and on the slow Reference. */
public final class ReferenceTest {
    private static final int CALLS = Arbiter.CALLS;

    private final Random random;
    private final MateArbiter x = new MateArbiter();
    private final Reference want = new Reference();
    private final String run;
    private int calls = 0;

    private ReferenceTest(int number) {
        random = new Random(number);
        run = "run " + number;
    }

    public static void main(String[] args) {
        int runs = args.length > 0 ? Integer.parseInt(args[0]) : 240;
        int first = args.length > 1 ? Integer.parseInt(args[1]) : 0;
        int longest = 0;
        for (int number = first; number < first + runs; number++) {
            ReferenceTest test = new ReferenceTest(number);
            if (number % 8 == 0) {
                test.goFar();
                longest = Math.max(longest, test.want.plies());
            } else {
                test.goAbout(number % 4);
            }
        }
        // Now and then such a game comes to where every move ends it, but not always.
        Due.due("moves of the longest game", longest, CALLS);
        Due.finish();
    }

    // A chain of calls may run over the last one that is promised: what is answered there is free.
    private void due(String call, long got, long wanted) {
        calls++;
        if (calls <= CALLS) {
            Due.due(run + ", call " + calls + ": " + call, got, wanted);
        }
    }

    // Nothing but moves, so that the game becomes as long as an object's calls allow.
    private void goFar() {
        boolean found = true;
        while (found && calls < CALLS) {
            found = false;
            for (int tries = 0; tries < 200 && !found; tries++) {
                int code = want.legal(random.nextInt(want.moves()));
                boolean quiet = want.piece(code / 64 % 64) == 0 && want.piece(code % 64) % 8 != 1;
                if (quiet == want.clock() < 120 || tries > 100) {
                    found = goesOn(code);
                }
            }
        }
        callOnAndOn();
    }

    // What an object answers after its last promised call is free, but it must never throw.
    private void callOnAndOn() {
        for (int i = 0; i < 2 * CALLS; i++) {
            int code = x.legal(i % Math.max(1, x.moves()));
            x.move(code & 63, code >> 6 & 63, code >> 12 & 7);
            x.verdict();
            x.claims();
        }
        for (int i = 0; i < 2 * CALLS; i++) {
            x.back();
        }
    }

    private boolean goesOn(int code) {
        want.move(code % 64, code / 64 % 64, code / 4096);
        if (want.verdict() != 0) {
            want.back();
            return false;
        }
        due("move " + code, x.move(code % 64, code / 64 % 64, code / 4096), 0);
        return true;
    }

    private void goAbout(int kind) {
        if (kind > 0) {
            setUp(kind);
        }
        while (calls < CALLS) {
            int lot = random.nextInt(100);
            boolean stuck = want.side() == -1 || want.verdict() != 0;
            if (stuck && lot < 10) {
                beginAgain();
            } else if (lot < 40) {
                legalMove();
            } else if (lot < 55) {
                moveBackAndForth();
            } else if (lot < 60) {
                anyMove();
            } else if (lot < 66) {
                due("back()", x.back() ? 1 : 0, want.back() ? 1 : 0);
            } else {
                ask(random.nextInt(14));
            }
        }
    }

    private void beginAgain() {
        int kind = random.nextInt(8);
        if (kind == 0) {
            x.standard();
            want.standard();
            calls++;
        } else {
            setUp(1 + kind % 3);
        }
    }

    private void legalMove() {
        int count = want.moves();
        if (count == 0) {
            anyMove();
            return;
        }
        int code = want.legal(random.nextInt(count));
        for (int tries = 0; tries < 5; tries++) {
            int other = want.legal(random.nextInt(count));
            boolean isPawn = want.piece(other % 64) % 8 == 1;
            boolean isDoubleStep = isPawn && Math.abs(other % 64 - other / 64 % 64) == 16;
            boolean isPassant = isPawn && other / 64 % 64 == want.passant();
            if (isDoubleStep || isPassant) {
                code = other;
            }
        }
        move(code % 64, code / 64 % 64, code / 4096);
    }

    // Both sides go somewhere and return, so that positions come again.
    private void moveBackAndForth() {
        int[] codes = new int[2];
        int rounds = 1 + random.nextInt(4);
        for (int ply = 0; ply < 4 * rounds && want.moves() > 0; ply++) {
            if (ply < 2) {
                codes[ply] = want.legal(random.nextInt(want.moves())) % 4096;
            }
            int code = codes[ply % 2];
            int from = ply % 4 < 2 ? code % 64 : code / 64;
            int to = ply % 4 < 2 ? code / 64 : code % 64;
            move(from, to, 0);
            if (random.nextInt(4) == 0) {
                ask(random.nextBoolean() ? 8 : 9);
            }
        }
    }

    private void anyMove() {
        move(number(64), number(64), random.nextInt(3) == 0 ? number(8) : 0);
    }

    private void move(int from, int to, int promotion) {
        due("move(" + from + ", " + to + ", " + promotion + ")", x.move(from, to, promotion), want.move(from, to, promotion));
    }

    private int number(int bound) {
        return random.nextInt(20) == 0 ? random.nextInt() : random.nextInt(bound + 2) - 1;
    }

    private void ask(int what) {
        int square = number(64);
        int side = random.nextInt(10) == 0 ? number(2) : random.nextInt(2);
        switch (what) {
            case 0 -> due("piece(" + square + ")", x.piece(square), want.piece(square));
            case 1 -> due("side()", x.side(), want.side());
            case 2 -> due("rights()", x.rights(), want.rights());
            case 3 -> due("passant()", x.passant(), want.passant());
            case 4 -> due("moves()", x.moves(), want.moves());
            case 5 -> due("legal(" + square + ")", x.legal(square), want.legal(square));
            case 6 -> due("attackers(" + square + ", " + side + ")", x.attackers(square, side), want.attackers(square, side));
            case 7 -> due("check()", x.check() ? 1 : 0, want.check() ? 1 : 0);
            case 8 -> due("verdict()", x.verdict(), want.verdict());
            case 9 -> due("claims()", x.claims(), want.claims());
            case 10 -> due("clock()", x.clock(), want.clock());
            case 11 -> due("plies()", x.plies(), want.plies());
            case 12 -> search();
            default -> due("put(" + square + ", 5)", x.put(square, 5) ? 1 : 0, want.put(square, 5) ? 1 : 0);
        }
    }

    private void search() {
        int depth = random.nextInt(6) == 0 ? number(3) : random.nextInt(3);
        due("search(" + depth + ")", x.search(depth), want.search(depth));
    }

    private void setUp(int kind) {
        x.clear();
        want.clear();
        calls++;
        if (kind == 1) {
            put(4, 6);
            put(60, 14);
            int[] corners = {0, 7, 56, 63};
            for (int corner : corners) {
                if (random.nextInt(4) != 0) {
                    put(corner, corner < 8 ? 4 : 12);
                }
            }
        } else {
            put(random.nextInt(64), 6);
            put(random.nextInt(64), 14);
        }
        int men = kind == 3 ? random.nextInt(4) : random.nextInt(24);
        for (int i = 0; i < men; i++) {
            int kindOfPiece = random.nextInt(3) == 0 ? 1 : 1 + random.nextInt(5);
            boolean anywhere = kindOfPiece != 1 || random.nextInt(60) == 0;
            int square = anywhere ? random.nextInt(64) : 8 + random.nextInt(48);
            put(square, kindOfPiece + 8 * random.nextInt(2));
        }
        tryToStart();
    }

    private void put(int square, int piece) {
        if (want.piece(square) % 8 != 6) {
            due("put(" + square + ", " + piece + ")", x.put(square, piece) ? 1 : 0, want.put(square, piece) ? 1 : 0);
        }
    }

    private void tryToStart() {
        for (int tries = 0; tries < 6; tries++) {
            int side = random.nextInt(15) == 0 ? number(2) : random.nextInt(2);
            int rights = tries % 2 == 0 ? random.nextInt(16) : random.nextInt(20) == 0 ? number(16) : 0;
            int passant = tries > 2 ? -1 : random.nextInt(4) == 0 ? number(64) : likelyPassant(side);
            String call = "start(" + side + ", " + rights + ", " + passant + ")";
            due(call, x.start(side, rights, passant), want.start(side, rights, passant));
            ask(6);
        }
    }

    private int likelyPassant(int side) {
        for (int file = 0; file < 8; file++) {
            int pawn = side == 0 ? 32 + file : 24 + file;
            if (want.piece(pawn) == (side == 0 ? 9 : 1) && random.nextInt(3) != 0) {
                return side == 0 ? pawn + 8 : pawn - 8;
            }
        }
        return -1;
    }
}
