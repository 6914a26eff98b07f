/** Sets up positions for tests from the first four fields of a FEN text. */
final class Boards {
    private static final String LETTERS = ".PNBRQK..pnbrqk";

    private Boards() {
    }

    static int square(String name) {
        return name.charAt(0) - 'a' + 8 * (name.charAt(1) - '1');
    }

    /** A new object, setting up. */
    static Arbiter empty() {
        Arbiter x = new Arbiter();
        x.clear();
        return x;
    }

    /** A new object, setting up, with the pieces of the first field. */
    static Arbiter pieces(String fen) {
        Arbiter x = empty();
        fill(x, fen);
        return x;
    }

    static void fill(Arbiter x, String fen) {
        int file = 0;
        int rank = 7;
        for (char c : fen.split(" ")[0].toCharArray()) {
            if (c == '/') {
                file = 0;
                rank--;
            } else if (Character.isDigit(c)) {
                file += c - '0';
            } else {
                x.put(8 * rank + file, LETTERS.indexOf(c));
                file++;
            }
        }
    }

    static int start(Arbiter x, String fen) {
        String[] fields = fen.split(" ");
        int rights = 0;
        for (char c : fields[2].toCharArray()) {
            rights += c == 'K' ? 1 : c == 'Q' ? 2 : c == 'k' ? 4 : c == 'q' ? 8 : 0;
        }
        int passant = fields[3].equals("-") ? -1 : square(fields[3]);
        return x.start(fields[1].equals("w") ? 0 : 1, rights, passant);
    }

    /** A new object with a game from the position. */
    static Arbiter game(String fen) {
        Arbiter x = pieces(fen);
        int code = start(x, fen);
        if (code != 0) {
            Due.due("start of " + fen, code, 0);
        }
        return x;
    }

    /** A new object with a game that begins with the position in which the other one stands. */
    static Arbiter twin(Arbiter x) {
        Arbiter y = empty();
        for (int square = 0; square < 64; square++) {
            y.put(square, x.piece(square));
        }
        Due.due("start of a twin", y.start(x.side(), x.rights(), x.passant()), 0);
        return y;
    }

    /** Makes a move such as e2e4 or e7e8q. */
    static int play(Arbiter x, String move) {
        int promotion = move.length() < 5 ? 0 : " .nbrq".indexOf(move.charAt(4));
        return x.move(square(move.substring(0, 2)), square(move.substring(2, 4)), promotion);
    }

    /** Makes moves that must all be legal. */
    static void playAll(Arbiter x, String moves) {
        for (String move : moves.split(" ")) {
            Due.due("move " + move + " of " + moves, play(x, move), 0);
        }
    }

    /** What stands where, and all that the object tells of the game, as one text. */
    static String state(Arbiter x) {
        StringBuilder text = new StringBuilder();
        for (int square = 0; square < 64; square++) {
            text.append(x.piece(square)).append(' ');
        }
        text.append(x.side()).append(' ').append(x.rights()).append(' ').append(x.passant()).append(' ');
        text.append(x.clock()).append(' ').append(x.plies()).append(' ').append(x.moves()).append(' ');
        text.append(x.check()).append(' ').append(x.verdict()).append(' ').append(x.claims());
        return text.toString();
    }

    /** Whether the move is in the list that legal() tells. */
    static boolean lists(Arbiter x, String move) {
        int promotion = move.length() < 5 ? 0 : " .nbrq".indexOf(move.charAt(4));
        int code = square(move.substring(0, 2)) + 64 * square(move.substring(2, 4)) + 4096 * promotion;
        int count = x.moves();
        for (int i = 0; i < count; i++) {
            if (x.legal(i) == code) {
                return true;
            }
        }
        return false;
    }
}
