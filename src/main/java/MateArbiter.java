import java.util.Arrays;

/**
 * An arbiter for chess: it sets up positions, knows all legal moves, makes them and takes them
 * back, says how the game stands, and looks up to two moves ahead.
 */
public final class MateArbiter {
    /** A number is not as said, or it is no time for this call. */
    public static final int BAD = -1;
    /** A side has not just one king, or more than 16 pieces. */
    public static final int MEN = -2;
    /** A pawn stands on rank 0 or 7. */
    public static final int PAWNS = -3;
    /** The side that is not to move is in check. */
    public static final int CHECK = -4;
    /** King or rook of a right do not stand on their squares. */
    public static final int RIGHTS = -5;
    /** The passant square is not as it must be. */
    public static final int PASSANT = -6;
    /** The game has ended. */
    public static final int OVER = -7;

    private static final int WHITE = 0;
    private static final int BLACK = 1;

    // The kind of a piece is its number without BLACK_BIT, so one number serves both sides.
    private static final int NO_PIECE = 0;
    private static final int PAWN = 1;
    private static final int KNIGHT = 2;
    private static final int BISHOP = 3;
    private static final int ROOK = 4;
    private static final int QUEEN = 5;
    private static final int KING = 6;
    private static final int BLACK_BIT = 8;

    private static final int NO_SQUARE = -1;
    private static final int ALL_RIGHTS = 15;
    private static final int SHORT_RIGHT = 1;
    private static final int LONG_RIGHT = 2;

    // Right number r, worth 1 << r, belongs to side r / 2.
    private static final int[] KING_HOME = {4, 4, 60, 60};
    private static final int[] ROOK_HOME = {7, 0, 63, 56};

    // The eight ways in which kings and riders go, and the eight leaps of a knight.
    private static final int[] WAY_FILE = {-1, 0, 1, -1, 1, -1, 0, 1};
    private static final int[] WAY_RANK = {-1, -1, -1, 0, 0, 1, 1, 1};
    private static final int[] LEAP_FILE = {-1, 1, -2, 2, -2, 2, -1, 1};
    private static final int[] LEAP_RANK = {-2, -2, -1, -1, 1, 1, 2, 2};

    private static final int[] FIRST_RANK = {ROOK, KNIGHT, BISHOP, QUEEN, KING, BISHOP, KNIGHT, ROOK};

    private static final int[] WORTH = {0, 1, 3, 3, 5, 9, 0, 0};
    private static final int MATED = -1000;
    private static final int NO_VALUE = BAD * 10000;

    private static final int GOING_ON = 0;
    private static final int MATE = 1;
    private static final int STALEMATE = 2;
    private static final int DEAD = 3;
    private static final int FIVEFOLD = 4;
    private static final int LONG_CLOCK = 5;

    // The document bounds an object's calls, and each of them makes at most one move.
    private static final int MOST_PLIES = 512;

    // Fifteen queens with 27 squares each, a king with eight and two castlings: no side has more.
    private static final int MOST_MOVES = 15 * 27 + 10;

    private final Position position = new Position();
    private final MoveRow legalMoves = new MoveRow();
    private final MoveRow scratch = new MoveRow();
    private final History history = new History();
    private boolean on;

    public MateArbiter() {
        position.board.fillStandard();
        beginGame(WHITE, ALL_RIGHTS, NO_SQUARE);
    }

    public void standard() {
        position.board.fillStandard();
        beginGame(WHITE, ALL_RIGHTS, NO_SQUARE);
    }

    public void clear() {
        on = false;
        position.board.wipe();
    }

    public boolean put(int square, int piece) {
        if (on || !isSquare(square) || !isPieceOrNone(piece)) {
            return false;
        }
        position.board.cells[square] = piece;
        return true;
    }

    public int start(int side, int rights, int passant) {
        if (on || !isSide(side) || rights < 0 || rights > ALL_RIGHTS) {
            return BAD;
        }
        if (passant != NO_SQUARE && !isSquare(passant)) {
            return BAD;
        }
        int fault = StartRules.faultOf(position.board, side, rights, passant);
        if (fault != 0) {
            return fault;
        }
        beginGame(side, rights, passant);
        return 0;
    }

    public int move(int from, int to, int promotion) {
        if (!on) {
            return BAD;
        }
        if (verdict() != GOING_ON) {
            return OVER;
        }
        if (!isSquare(from) || !isSquare(to) || promotion < 0 || promotion > QUEEN) {
            return BAD;
        }
        int code = codeOf(from, to, promotion);
        if (history.isFull() || !legalMoves.holds(code)) {
            return BAD;
        }
        history.push(code, position.make(code));
        findLegalMoves();
        history.note(position, passantThatCanBeTaken());
        return 0;
    }

    public boolean back() {
        if (!on || history.plies == 0) {
            return false;
        }
        position.unmake(history.latestMove(), history.latestUndo());
        history.pop();
        findLegalMoves();
        return true;
    }

    public int piece(int square) {
        return isSquare(square) ? position.board.cells[square] : BAD;
    }

    public int side() {
        return on ? position.side : BAD;
    }

    public int rights() {
        return on ? position.rights : BAD;
    }

    public int passant() {
        return on && position.passant != NO_SQUARE ? position.passant : BAD;
    }

    public int moves() {
        return on ? legalMoves.size : 0;
    }

    public int legal(int i) {
        if (!on || i < 0 || i >= legalMoves.size) {
            return BAD;
        }
        int code = legalMoves.codes[i];
        return fromOf(code) + 64 * toOf(code) + 4096 * promotionOf(code);
    }

    public int attackers(int square, int side) {
        if (!isSquare(square) || !isSide(side)) {
            return BAD;
        }
        return position.board.countAttackers(square, side);
    }

    public boolean check() {
        return on && position.isInCheck();
    }

    public int verdict() {
        if (!on) {
            return GOING_ON;
        }
        if (legalMoves.size == 0) {
            return position.isInCheck() ? MATE : STALEMATE;
        }
        if (position.board.isDead()) {
            return DEAD;
        }
        if (history.timesThere() >= 5) {
            return FIVEFOLD;
        }
        return position.clock >= 150 ? LONG_CLOCK : GOING_ON;
    }

    public int claims() {
        if (!on) {
            return 0;
        }
        int sum = history.timesThere() >= 3 ? 1 : 0;
        return position.clock >= 100 ? sum + 2 : sum;
    }

    public int clock() {
        return on ? position.clock : 0;
    }

    public int plies() {
        return on ? history.plies : 0;
    }

    public int search(int depth) {
        if (!on || depth < 0 || depth > 2) {
            return NO_VALUE;
        }
        if (depth == 0) {
            return position.board.balanceFor(position.side);
        }
        return depth == 1 ? lookOneAhead() : lookTwoAhead();
    }

    private void beginGame(int side, int rights, int passant) {
        position.begin(side, rights, passant);
        on = true;
        history.plies = 0;
        findLegalMoves();
        history.note(position, passantThatCanBeTaken());
    }

    private void findLegalMoves() {
        scratch.size = 0;
        MoveFinder.addPieceMoves(position, scratch);
        MoveFinder.addCastlings(position, scratch);
        legalMoves.size = 0;
        for (int i = 0; i < scratch.size; i++) {
            int code = scratch.codes[i];
            if (position.isLegal(code)) {
                legalMoves.insert(code);
            }
        }
    }

    // Whether positions are alike hangs on this square, not on the one that passant() tells.
    private int passantThatCanBeTaken() {
        if (position.passant == NO_SQUARE) {
            return NO_SQUARE;
        }
        for (int i = 0; i < legalMoves.size; i++) {
            int code = legalMoves.codes[i];
            int kind = kindOf(position.board.cells[fromOf(code)]);
            if (kind == PAWN && toOf(code) == position.passant) {
                return position.passant;
            }
        }
        return NO_SQUARE;
    }

    // The value after a move is known from what it gains, so the dear question whether a move is
    // legal is asked only of those that would gain more than the best one so far.
    private int lookOneAhead() {
        scratch.size = 0;
        MoveFinder.addPieceMoves(position, scratch);
        MoveFinder.addCastlings(position, scratch);
        int best = -1;
        for (int i = 0; i < scratch.size; i++) {
            int code = scratch.codes[i];
            int gain = position.gainOf(code);
            if (gain > best && position.isLegal(code)) {
                best = gain;
            }
        }
        if (best < 0) {
            return valueWithoutMove();
        }
        return position.board.balanceFor(position.side) + best;
    }

    private int lookTwoAhead() {
        if (legalMoves.size == 0) {
            return valueWithoutMove();
        }
        // No reply is worth so much to the other side that a move could come down to this.
        int best = MATED;
        for (int i = 0; i < legalMoves.size; i++) {
            int code = legalMoves.codes[i];
            int undo = position.make(code);
            best = Math.max(best, -lookOneAhead());
            position.unmake(code, undo);
        }
        return best;
    }

    private int valueWithoutMove() {
        return position.isInCheck() ? MATED : 0;
    }

    private static boolean isSquare(int number) {
        return number >= 0 && number < 64;
    }

    private static boolean isOnBoard(int file, int rank) {
        return file >= 0 && file < 8 && rank >= 0 && rank < 8;
    }

    private static boolean isSide(int number) {
        return number == WHITE || number == BLACK;
    }

    private static boolean isPieceOrNone(int number) {
        boolean isWhite = number >= PAWN && number <= KING;
        boolean isBlack = number >= PAWN + BLACK_BIT && number <= KING + BLACK_BIT;
        return number == NO_PIECE || isWhite || isBlack;
    }

    private static int kindOf(int piece) {
        return piece & 7;
    }

    private static boolean isOf(int piece, int side) {
        return piece != NO_PIECE && piece >> 3 == side;
    }

    private static int pieceOf(int kind, int side) {
        return kind + BLACK_BIT * side;
    }

    private static int aheadOf(int side) {
        return side == WHITE ? 8 : -8;
    }

    // Codes grow by from, then to, then promotion: the order in which the document lists moves.
    private static int codeOf(int from, int to, int promotion) {
        return from << 9 | to << 3 | promotion;
    }

    private static int fromOf(int code) {
        return code >> 9 & 63;
    }

    private static int toOf(int code) {
        return code >> 3 & 63;
    }

    private static int promotionOf(int code) {
        return code & 7;
    }

    /** Pieces on squares, whether a game is on or not. */
    private static final class Board {
        final int[] cells = new int[64];

        void wipe() {
            Arrays.fill(cells, NO_PIECE);
        }

        void fillStandard() {
            wipe();
            for (int file = 0; file < 8; file++) {
                cells[file] = pieceOf(FIRST_RANK[file], WHITE);
                cells[8 + file] = pieceOf(PAWN, WHITE);
                cells[48 + file] = pieceOf(PAWN, BLACK);
                cells[56 + file] = pieceOf(FIRST_RANK[file], BLACK);
            }
        }

        int findKing(int side) {
            int king = pieceOf(KING, side);
            for (int square = 0; square < 64; square++) {
                if (cells[square] == king) {
                    return square;
                }
            }
            return NO_SQUARE;
        }

        // Looks out from the square, which is far cheaper than asking every piece.
        int countAttackers(int square, int side) {
            int count = 0;
            for (int way = 0; way < 8; way++) {
                int seen = firstPieceFrom(square, way);
                if (seen != NO_SQUARE && isOf(cells[seen], side) && strikesBack(seen, square, way)) {
                    count++;
                }
                if (isKnightThere(square, way, side)) {
                    count++;
                }
            }
            return count;
        }

        private int firstPieceFrom(int square, int way) {
            int file = square % 8;
            int rank = square / 8;
            for (int distance = 1; distance < 8; distance++) {
                file += WAY_FILE[way];
                rank += WAY_RANK[way];
                if (!isOnBoard(file, rank)) {
                    return NO_SQUARE;
                }
                if (cells[8 * rank + file] != NO_PIECE) {
                    return 8 * rank + file;
                }
            }
            return NO_SQUARE;
        }

        // The way leads from the attacked square to the piece: a pawn attacks against it.
        private boolean strikesBack(int seen, int square, int way) {
            int piece = cells[seen];
            boolean isNext = seen - square == 8 * WAY_RANK[way] + WAY_FILE[way];
            boolean isDiagonal = WAY_FILE[way] != 0 && WAY_RANK[way] != 0;
            switch (kindOf(piece)) {
                case PAWN:
                    return isNext && isDiagonal && 8 * WAY_RANK[way] == -aheadOf(piece >> 3);
                case BISHOP:
                    return isDiagonal;
                case ROOK:
                    return !isDiagonal;
                case QUEEN:
                    return true;
                case KING:
                    return isNext;
                default:
                    return false;
            }
        }

        private boolean isKnightThere(int square, int leap, int side) {
            int file = square % 8 + LEAP_FILE[leap];
            int rank = square / 8 + LEAP_RANK[leap];
            return isOnBoard(file, rank) && cells[8 * rank + file] == pieceOf(KNIGHT, side);
        }

        int balanceFor(int side) {
            int balance = 0;
            for (int square = 0; square < 64; square++) {
                int worth = WORTH[kindOf(cells[square])];
                balance += isOf(cells[square], side) ? worth : -worth;
            }
            return balance;
        }

        boolean isDead() {
            int knights = 0;
            int whiteBishops = 0;
            int blackBishops = 0;
            int onOddSquares = 0;
            for (int square = 0; square < 64; square++) {
                int kind = kindOf(cells[square]);
                if (kind == PAWN || kind == ROOK || kind == QUEEN) {
                    return false;
                }
                if (kind == KNIGHT) {
                    knights++;
                }
                if (kind == BISHOP) {
                    whiteBishops += isOf(cells[square], WHITE) ? 1 : 0;
                    blackBishops += isOf(cells[square], BLACK) ? 1 : 0;
                    onOddSquares += (square % 8 + square / 8) % 2;
                }
            }
            if (knights + whiteBishops + blackBishops <= 1) {
                return true;
            }
            return knights == 0 && whiteBishops == 1 && blackBishops == 1 && onOddSquares != 1;
        }
    }

    /** A board with all else that belongs to a position of a game, and the clock. */
    private static final class Position {
        final Board board = new Board();
        // Kept, since the question for check comes after every move that is tried.
        final int[] kings = new int[2];
        int side;
        int rights;
        int passant;
        int clock;

        void begin(int firstSide, int firstRights, int firstPassant) {
            side = firstSide;
            rights = firstRights;
            passant = firstPassant;
            clock = 0;
            kings[WHITE] = board.findKing(WHITE);
            kings[BLACK] = board.findKing(BLACK);
        }

        boolean isInCheck() {
            return board.countAttackers(kings[side], 1 - side) > 0;
        }

        boolean isLegal(int code) {
            int mover = side;
            int undo = make(code);
            boolean isSafe = board.countAttackers(kings[mover], 1 - mover) == 0;
            unmake(code, undo);
            return isSafe;
        }

        int gainOf(int code) {
            int piece = board.cells[fromOf(code)];
            int taken = board.cells[takenSquare(piece, toOf(code))];
            int promotion = promotionOf(code);
            int growth = promotion == 0 ? 0 : WORTH[promotion] - WORTH[PAWN];
            return WORTH[kindOf(taken)] + growth;
        }

        /** Answers all that unmake needs beside the move itself. */
        int make(int code) {
            int from = fromOf(code);
            int to = toOf(code);
            int piece = board.cells[from];
            int kind = kindOf(piece);
            int takenAt = takenSquare(piece, to);
            int taken = board.cells[takenAt];
            int undo = taken | rights << 4 | (passant + 1) << 8 | clock << 16;
            board.cells[takenAt] = NO_PIECE;
            board.cells[from] = NO_PIECE;
            board.cells[to] = promotionOf(code) == 0 ? piece : pieceOf(promotionOf(code), side);
            if (kind == KING) {
                kings[side] = to;
                if (isCastling(from, to)) {
                    shiftPiece(rookBeforeCastling(from, to), (from + to) / 2);
                }
            }
            boolean isDoubleStep = kind == PAWN && Math.abs(to - from) == 16;
            passant = isDoubleStep ? (from + to) / 2 : NO_SQUARE;
            clock = kind == PAWN || taken != NO_PIECE ? 0 : clock + 1;
            loseRights(from, to);
            side = 1 - side;
            return undo;
        }

        void unmake(int code, int undo) {
            int from = fromOf(code);
            int to = toOf(code);
            side = 1 - side;
            rights = undo >> 4 & 15;
            passant = (undo >> 8 & 127) - 1;
            clock = undo >> 16;
            int piece = promotionOf(code) == 0 ? board.cells[to] : pieceOf(PAWN, side);
            board.cells[to] = NO_PIECE;
            board.cells[from] = piece;
            board.cells[takenSquare(piece, to)] = undo & 15;
            if (kindOf(piece) == KING) {
                kings[side] = from;
                if (isCastling(from, to)) {
                    shiftPiece((from + to) / 2, rookBeforeCastling(from, to));
                }
            }
        }

        // A pawn that comes to the passant square always takes: a plain step there would have to
        // begin on the square where the pawn to be taken stands.
        private int takenSquare(int piece, int to) {
            return kindOf(piece) == PAWN && to == passant ? to - aheadOf(side) : to;
        }

        // No other move of a king goes two squares.
        private static boolean isCastling(int from, int to) {
            return Math.abs(to - from) == 2;
        }

        private static int rookBeforeCastling(int from, int to) {
            return to > from ? from + 3 : from - 4;
        }

        private void shiftPiece(int from, int to) {
            board.cells[to] = board.cells[from];
            board.cells[from] = NO_PIECE;
        }

        private void loseRights(int from, int to) {
            if (rights == 0) {
                return;
            }
            for (int r = 0; r < 4; r++) {
                boolean kingTouched = from == KING_HOME[r] || to == KING_HOME[r];
                boolean rookTouched = from == ROOK_HOME[r] || to == ROOK_HOME[r];
                if (kingTouched || rookTouched) {
                    rights &= ~(1 << r);
                }
            }
        }
    }

    /** Finds the moves of the side to move, those that leave it in check among them. */
    private static final class MoveFinder {
        static void addPieceMoves(Position position, MoveRow row) {
            for (int from = 0; from < 64; from++) {
                int piece = position.board.cells[from];
                if (!isOf(piece, position.side)) {
                    continue;
                }
                if (kindOf(piece) == PAWN) {
                    addPawnSteps(position, from, row);
                    addPawnTakings(position, from, row);
                } else {
                    addRides(position, from, row);
                }
            }
        }

        // Knight and king ride too, but one step far.
        private static void addRides(Position position, int from, MoveRow row) {
            int kind = kindOf(position.board.cells[from]);
            for (int way = 0; way < 8; way++) {
                boolean isDiagonal = WAY_FILE[way] != 0 && WAY_RANK[way] != 0;
                if (kind == KNIGHT) {
                    addRide(position, from, LEAP_FILE[way], LEAP_RANK[way], 1, row);
                } else if (kind == KING) {
                    addRide(position, from, WAY_FILE[way], WAY_RANK[way], 1, row);
                } else if (kind == QUEEN || isDiagonal == (kind == BISHOP)) {
                    addRide(position, from, WAY_FILE[way], WAY_RANK[way], 7, row);
                }
            }
        }

        private static void addRide(Position position, int from, int files, int ranks, int longest, MoveRow row) {
            int file = from % 8;
            int rank = from / 8;
            for (int distance = 1; distance <= longest; distance++) {
                file += files;
                rank += ranks;
                if (!isOnBoard(file, rank)) {
                    return;
                }
                int there = position.board.cells[8 * rank + file];
                if (!isOf(there, position.side)) {
                    row.append(codeOf(from, 8 * rank + file, 0));
                }
                if (there != NO_PIECE) {
                    return;
                }
            }
        }

        private static void addPawnSteps(Position position, int from, MoveRow row) {
            int[] cells = position.board.cells;
            int ahead = aheadOf(position.side);
            int next = from + ahead;
            if (!isSquare(next) || cells[next] != NO_PIECE) {
                return;
            }
            addPawnMove(from, next, row);
            boolean isOnSecondRank = from / 8 == (position.side == WHITE ? 1 : 6);
            if (isOnSecondRank && cells[next + ahead] == NO_PIECE) {
                addPawnMove(from, next + ahead, row);
            }
        }

        private static void addPawnTakings(Position position, int from, MoveRow row) {
            int rank = from / 8 + (position.side == WHITE ? 1 : -1);
            for (int file = from % 8 - 1; file <= from % 8 + 1; file += 2) {
                if (!isOnBoard(file, rank)) {
                    continue;
                }
                int to = 8 * rank + file;
                if (to == position.passant || isOf(position.board.cells[to], 1 - position.side)) {
                    addPawnMove(from, to, row);
                }
            }
        }

        private static void addPawnMove(int from, int to, MoveRow row) {
            // No pawn ever stands on its own side's first rank, so either end is the last rank.
            if (to / 8 != 0 && to / 8 != 7) {
                row.append(codeOf(from, to, 0));
                return;
            }
            for (int promotion = KNIGHT; promotion <= QUEEN; promotion++) {
                row.append(codeOf(from, to, promotion));
            }
        }

        // A right that is still there says that king and rook stand on their squares.
        static void addCastlings(Position position, MoveRow row) {
            Board board = position.board;
            int other = 1 - position.side;
            int home = KING_HOME[2 * position.side];
            int rights = position.rights >> 2 * position.side;
            boolean isShortOpen = (rights & SHORT_RIGHT) != 0 && areEmpty(board, home + 1, home + 2);
            boolean isLongOpen = (rights & LONG_RIGHT) != 0 && areEmpty(board, home - 3, home - 1);
            if (!isShortOpen && !isLongOpen || board.countAttackers(home, other) > 0) {
                return;
            }
            if (isShortOpen && board.countAttackers(home + 1, other) == 0) {
                row.append(codeOf(home, home + 2, 0));
            }
            if (isLongOpen && board.countAttackers(home - 1, other) == 0) {
                row.append(codeOf(home, home - 2, 0));
            }
        }

        private static boolean areEmpty(Board board, int first, int last) {
            for (int square = first; square <= last; square++) {
                if (board.cells[square] != NO_PIECE) {
                    return false;
                }
            }
            return true;
        }
    }

    /** Says what is wrong with a first position, by the first code that fits. */
    private static final class StartRules {
        static int faultOf(Board board, int side, int rights, int passant) {
            if (!areMenRight(board, WHITE) || !areMenRight(board, BLACK)) {
                return MEN;
            }
            if (isPawnOnOuterRank(board)) {
                return PAWNS;
            }
            if (board.countAttackers(board.findKing(1 - side), side) > 0) {
                return CHECK;
            }
            if (!areRightsBacked(board, rights)) {
                return RIGHTS;
            }
            if (passant != NO_SQUARE && !isPassantRight(board, side, passant)) {
                return PASSANT;
            }
            return 0;
        }

        private static boolean areMenRight(Board board, int side) {
            int kings = 0;
            int men = 0;
            for (int square = 0; square < 64; square++) {
                int piece = board.cells[square];
                if (isOf(piece, side)) {
                    men++;
                    kings += kindOf(piece) == KING ? 1 : 0;
                }
            }
            return kings == 1 && men <= 16;
        }

        private static boolean isPawnOnOuterRank(Board board) {
            for (int file = 0; file < 8; file++) {
                if (kindOf(board.cells[file]) == PAWN || kindOf(board.cells[56 + file]) == PAWN) {
                    return true;
                }
            }
            return false;
        }

        private static boolean areRightsBacked(Board board, int rights) {
            for (int r = 0; r < 4; r++) {
                boolean isKingHome = board.cells[KING_HOME[r]] == pieceOf(KING, r / 2);
                boolean isRookHome = board.cells[ROOK_HOME[r]] == pieceOf(ROOK, r / 2);
                if ((rights & 1 << r) != 0 && !(isKingHome && isRookHome)) {
                    return false;
                }
            }
            return true;
        }

        private static boolean isPassantRight(Board board, int side, int passant) {
            if (passant / 8 != (side == WHITE ? 5 : 2)) {
                return false;
            }
            int ahead = aheadOf(side);
            boolean isWayFree = board.cells[passant] == NO_PIECE && board.cells[passant + ahead] == NO_PIECE;
            return isWayFree && board.cells[passant - ahead] == pieceOf(PAWN, 1 - side);
        }
    }

    /** A row of moves that is made once and filled anew again and again. */
    private static final class MoveRow {
        final int[] codes = new int[MOST_MOVES];
        int size;

        void append(int code) {
            if (size < MOST_MOVES) {
                codes[size] = code;
                size++;
            }
        }

        void insert(int code) {
            if (size >= MOST_MOVES) {
                return;
            }
            int at = size;
            while (at > 0 && codes[at - 1] > code) {
                codes[at] = codes[at - 1];
                at--;
            }
            codes[at] = code;
            size++;
        }

        boolean holds(int code) {
            for (int i = 0; i < size; i++) {
                if (codes[i] == code) {
                    return true;
                }
            }
            return false;
        }
    }

    /** The moves of the game, how to take them back, and the positions between them. */
    private static final class History {
        final int[] codes = new int[MOST_PLIES];
        final int[] undos = new int[MOST_PLIES];
        // A position is four quarters of a board, four bits a square, and a mark for the rest.
        final long[] quarters = new long[4 * (MOST_PLIES + 1)];
        final int[] marks = new int[MOST_PLIES + 1];
        int plies;

        boolean isFull() {
            return plies >= MOST_PLIES;
        }

        void push(int code, int undo) {
            if (plies < MOST_PLIES) {
                codes[plies] = code;
                undos[plies] = undo;
                plies++;
            }
        }

        void pop() {
            if (plies > 0) {
                plies--;
            }
        }

        int latestMove() {
            return plies > 0 ? codes[plies - 1] : 0;
        }

        int latestUndo() {
            return plies > 0 ? undos[plies - 1] : 0;
        }

        void note(Position position, int takeablePassant) {
            for (int quarter = 0; quarter < 4; quarter++) {
                long packed = 0;
                for (int square = 16 * quarter; square < 16 * quarter + 16; square++) {
                    packed = packed << 4 | position.board.cells[square];
                }
                quarters[4 * plies + quarter] = packed;
            }
            marks[plies] = position.side | position.rights << 1 | (takeablePassant + 1) << 5;
        }

        int timesThere() {
            int times = 0;
            for (int i = 0; i <= plies; i++) {
                if (isAlikeToPresent(i)) {
                    times++;
                }
            }
            return times;
        }

        private boolean isAlikeToPresent(int i) {
            if (marks[i] != marks[plies]) {
                return false;
            }
            for (int quarter = 0; quarter < 4; quarter++) {
                if (quarters[4 * i + quarter] != quarters[4 * plies + quarter]) {
                    return false;
                }
            }
            return true;
        }
    }
}
