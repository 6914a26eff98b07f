/** Promise 5: every set of faults that start can find at once, and which code comes first. */
public final class StartOrderTest {
    private static final int[] CODES = {
        MateArbiter.BAD, MateArbiter.MEN, MateArbiter.PAWNS, MateArbiter.CHECK, MateArbiter.RIGHTS, MateArbiter.PASSANT,
    };
    private static final int BAD = 0;
    private static final int RIGHTS = 4;
    private static final int PASSANT = 5;

    // Said with white to move: squares and what is put there beside the kings on 4 and 60.
    private static final int[][] MEN_FAULTS = {
        {40, 6}, {23, 14}, {4, 0}, {60, 0}, men(1, 2), men(9, 10),
    };
    private static final int[][] PAWN_FAULTS = {{0, 1}, {63, 1}, {56, 9}, {7, 9}};
    private static final int[][] CHECK_FAULTS = {{50, 2}, {28, 4}, {51, 1}, {24, 3}};
    private static final int[][][] PUTS = {{{}}, MEN_FAULTS, PAWN_FAULTS, CHECK_FAULTS, {{}}, {{}}};

    private static final int[] WRONG_RIGHTS = {1, 2, 4, 8, 15};
    private static final int[] WRONG_PASSANTS = {40, 16, 63, 0};
    private static final int VARIANTS = 12;

    public static void main(String[] args) {
        for (int faults = 0; faults < 64; faults++) {
            for (int variant = 0; variant < VARIANTS; variant++) {
                new StartOrderTest(0, variant, faults).mendOneByOne();
                new StartOrderTest(1, variant, faults).mendOneByOne();
            }
        }
        gameOnComesBeforeAll();
        Due.finish();
    }

    private final int side;
    private final int variant;
    private final Arbiter x = new Arbiter();
    private final int[] board = new int[64];
    private int faults;

    private StartOrderTest(int side, int variant, int faults) {
        this.side = side;
        this.variant = variant;
        this.faults = faults;
        x.clear();
        put(4, 6);
        put(60, 14);
        for (int fault = 0; fault < CODES.length; fault++) {
            int[] puts = putsOf(fault);
            for (int i = 0; has(fault) && i < puts.length; i += 2) {
                put(puts[i], puts[i + 1]);
            }
        }
    }

    // Sixteen of a side beside its king, none of which gives check.
    private static int[] men(int pawn, int knight) {
        int[] puts = new int[32];
        for (int i = 0; i < 16; i++) {
            puts[2 * i] = 8 + i;
            puts[2 * i + 1] = i < 8 ? pawn : knight;
        }
        return puts;
    }

    private int[] putsOf(int fault) {
        return PUTS[fault][variant % PUTS[fault].length];
    }

    private boolean has(int fault) {
        return (faults >> fault & 1) == 1;
    }

    // The same for black is the board upside down with the sides exchanged.
    private void put(int square, int piece) {
        int there = side == 0 ? square : square ^ 56;
        int what = side == 0 || piece == 0 ? piece : piece ^ 8;
        board[there] = what;
        Due.due(this + ": put(" + there + ", " + what + ")", x.put(there, what), true);
    }

    private int start() {
        int rights = has(RIGHTS) ? WRONG_RIGHTS[variant % WRONG_RIGHTS.length] : 0;
        int passant = has(PASSANT) ? WRONG_PASSANTS[variant % WRONG_PASSANTS.length] : -1;
        int mover = side;
        if (side == 1) {
            rights = rights << 2 & 12 | rights >> 2;
            passant = passant == -1 ? -1 : passant ^ 56;
        }
        if (has(BAD)) {
            int[] sides = {2, -1, side, side, side, side};
            mover = sides[variant % 6];
            rights = variant % 6 == 2 ? 16 : variant % 6 == 3 ? -1 : rights;
            passant = variant % 6 == 4 ? 64 : variant % 6 == 5 ? -2 : passant;
        }
        return x.start(mover, rights, passant);
    }

    private void mendOneByOne() {
        for (int fault = 0; fault < CODES.length; fault++) {
            if (has(fault)) {
                Due.due(this + ": start", start(), CODES[fault]);
                Due.due(this + ": still setting up", x.side(), -1);
                mend(fault);
            }
        }
        for (int square = 0; square < 64; square++) {
            Due.due(this + ": piece(" + square + ")", x.piece(square), board[square]);
        }
        Due.due(this + ": start, all mended", start(), 0);
        Due.due(this + ": side()", x.side(), side);
    }

    private void mend(int fault) {
        int[] puts = putsOf(fault);
        for (int i = 0; i < puts.length; i += 2) {
            put(puts[i], puts[i] == 4 ? 6 : puts[i] == 60 ? 14 : 0);
        }
        faults &= ~(1 << fault);
    }

    // Pieces cannot be wrong while a game is on, but the numbers can, and the code stays BAD.
    private static void gameOnComesBeforeAll() {
        Arbiter x = new Arbiter();
        Due.due("all right but for the game", x.start(0, 15, -1), MateArbiter.BAD);
        Due.due("passant is wrong too", x.start(0, 15, 44), MateArbiter.BAD);
        Due.due("side is wrong too", x.start(2, 15, -1), MateArbiter.BAD);
        Boards.playAll(x, "e2e4 e7e5 e1e2");
        Due.due("rights are wrong too", x.start(1, 15, -1), MateArbiter.BAD);
        Arbiter over = Boards.game("R5k1/5ppp/8/8/8/8/8/4K3 b - -");
        Due.due("an ended game is on until clear()", over.start(1, 0, -1), MateArbiter.BAD);
        Due.due("and CHECK does not come first", over.start(0, 0, -1), MateArbiter.BAD);
        over.clear();
        Due.due("MEN behind clear()", over.start(1, 0, -1), MateArbiter.MEN);
    }

    @Override
    public String toString() {
        return "side " + side + ", variant " + variant + ", faults " + Integer.toBinaryString(faults);
    }
}
