/**
 * The same position told in other ways: bit 0 of a way exchanges the sides and turns the ranks
 * upside down, bit 1 exchanges left and right. All that holds for the one holds for the other.
 */
final class Mirror {
    private Mirror() {
    }

    /** How many ways there are: castling knows left from right, so rights allow only the first two. */
    static int ways(String fen) {
        return fen.split(" ")[2].equals("-") ? 4 : 2;
    }

    static String fen(String fen, int way) {
        String[] fields = fen.split(" ");
        String[] ranks = fields[0].split("/");
        StringBuilder text = new StringBuilder();
        for (int i = 0; i < 8; i++) {
            String rank = ranks[isSidewise(way) ? 7 - i : i];
            text.append(i == 0 ? "" : "/");
            text.append(isLeftRight(way) ? new StringBuilder(rank).reverse() : rank);
        }
        String pieces = isSidewise(way) ? otherCase(text.toString()) : text.toString();
        String side = isSidewise(way) ? fields[1].equals("w") ? "b" : "w" : fields[1];
        String rights = isSidewise(way) ? otherCase(fields[2]) : fields[2];
        String passant = fields[3].equals("-") ? "-" : square(fields[3], way);
        return pieces + " " + side + " " + rights + " " + passant;
    }

    /** Moves such as "e2e4 a7b8q". */
    static String moves(String moves, int way) {
        StringBuilder text = new StringBuilder();
        for (String move : moves.split(" ")) {
            text.append(text.length() == 0 ? "" : " ");
            if (!move.isEmpty()) {
                text.append(square(move.substring(0, 2), way)).append(square(move.substring(2, 4), way));
                text.append(move.substring(4));
            }
        }
        return text.toString();
    }

    static String square(String name, int way) {
        char file = isLeftRight(way) ? (char) ('a' + 'h' - name.charAt(0)) : name.charAt(0);
        char rank = isSidewise(way) ? (char) ('1' + '8' - name.charAt(1)) : name.charAt(1);
        return "" + file + rank;
    }

    static int rights(int rights, int way) {
        return isSidewise(way) ? rights << 2 & 12 | rights >> 2 : rights;
    }

    private static boolean isSidewise(int way) {
        return (way & 1) != 0;
    }

    private static boolean isLeftRight(int way) {
        return (way & 2) != 0;
    }

    private static String otherCase(String text) {
        StringBuilder other = new StringBuilder();
        for (char c : text.toCharArray()) {
            other.append(Character.isUpperCase(c) ? Character.toLowerCase(c) : Character.toUpperCase(c));
        }
        return other.toString();
    }
}
