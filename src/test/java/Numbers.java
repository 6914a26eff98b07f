import java.util.TreeSet;

/** Numbers that lie just outside a range, far outside, and where a short mask would let them in. */
final class Numbers {
    private Numbers() {
    }

    static int[] outside(int least, int most) {
        TreeSet<Integer> all = new TreeSet<>();
        int[] ends = {least, most};
        for (int end : ends) {
            all.add(end - 1);
            all.add(end + 1);
            for (int bit = 0; bit < 32; bit++) {
                all.add(end ^ 1 << bit);
                all.add(end - (1 << bit));
            }
        }
        int[] far = {Integer.MIN_VALUE, Integer.MIN_VALUE + 1, Integer.MAX_VALUE - 1, Integer.MAX_VALUE};
        for (int number : far) {
            all.add(number);
        }
        return all.stream().mapToInt(Integer::intValue).filter(n -> n < least || n > most).toArray();
    }
}
