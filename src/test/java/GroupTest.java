import java.util.Random;

/**
 * Groups: subgroups that leave an octad, a tetrad's sextet or points where they are, compared with the
 * Reference, the known orders, and for the whole of M24 a search that knows nothing of groups.
 */
public final class GroupTest {
    private static final int M24 = 244823040;
    private final Check check;
    private final Random random;
    private final Bench blocks = new Bench();
    private final Reference reference = new Reference();

    private GroupTest(Check check, int run) {
        this.check = check;
        this.random = new Random(run);
    }

    public static void main(String[] args) {
        Check check = new Check("GroupTest");
        int runs = args.length > 0 ? Integer.parseInt(args[0]) : 120;
        for (int run = 0; run < runs; run++) {
            new GroupTest(check, run).compareSubgroups(run % 4);
        }
        knownOrders(check);
        orderOfSum(check);
        for (int run = 0; run < 60; run++) {
            new GroupTest(check, run + 500).searchInWholeGroup();
        }
        check.end();
    }

    private int[] shuffled(int set) {
        int[] points = new int[Integer.bitCount(set)];
        int filled = 0;
        for (int p = 0; p < 24; p++) {
            if ((set & 1 << p) != 0) {
                int place = random.nextInt(filled + 1);
                points[filled] = points[place];
                points[place] = p;
                filled++;
            }
        }
        return points;
    }

    /** Reads a text into a permutation of both. */
    private void read(int m, String text) {
        for (int k = 0; k < text.length(); k++) {
            check.due("type", blocks.type(text.charAt(k)), reference.type(text.charAt(k)));
        }
        check.due("read(" + m + ") of " + text, blocks.read(m), reference.read(m));
    }

    private static String text(Bench blocks, int m) {
        StringBuilder text = new StringBuilder();
        for (int k = 0; blocks.letter(m, k) != EightBlocks.NONE; k++) {
            text.append((char) blocks.letter(m, k));
        }
        return text.length() == 0 ? "same" : text.toString().replace(")(", ")*(");
    }

    /** The text of an element of M24 that sends the points of a set to points of the set in another order. */
    private String someElement(int set, int pairs) {
        Bench other = new Bench();
        int[] from = shuffled(set);
        int[] to = shuffled(set);
        other.sheet(0, 0, 32);
        for (int k = 0; k < pairs; k++) {
            other.item(0, 0, 2 * k, from[k]);
            other.item(0, 0, 2 * k + 1, to[k]);
        }
        other.retrace(15, 0, 0, 0, pairs);
        return text(other, 4);
    }

    private void compareSubgroups(int kind) {
        int octad = blocks.block(1, random.nextInt(759));
        int[] points = shuffled(octad);
        int four = 1 << points[0] | 1 << points[1] | 1 << points[2] | 1 << points[3];
        for (int m = 0; m < 4; m++) {
            String element = kind == 0 ? someElement(octad, 5)
                : kind == 1 ? someElement(four, 4) : kind == 2 ? someElement(four, 3)
                : someElement(1 << points[m] | 1 << points[m + 1], 2);
            read(m, element.length() < 95 && m != kind ? "[" + element + "]^" + (1 + random.nextInt(4)) : element);
        }
        int[] choices = {1, 2, 3, 4, 5, 6, 7, 8, 11, 13, 15};
        for (int k = 0; k < 2; k++) {
            int moves = choices[random.nextInt(choices.length)];
            for (int what = 0; what < 5; what++) {
                String call = "group(" + moves + ", " + what + ") kind " + kind;
                check.due(call, blocks.group(moves, what), reference.group(moves, what));
            }
            int[] sets = {octad, four, blocks.count(0), random.nextInt(1 << 24), 1 << random.nextInt(24)};
            for (int set : sets) {
                for (int what = 0; what < 3; what++) {
                    String call = "held(" + moves + ", " + set + ", " + what + ")";
                    check.due(call, blocks.held(moves, set, what), reference.held(moves, set, what));
                }
            }
            for (int m = 0; m < 5; m++) {
                check.due("holds(" + moves + ", " + m + ")", blocks.holds(moves, m), reference.holds(moves, m));
            }
            compareRetrace(moves);
        }
    }

    private void compareRetrace(int moves) {
        check.due("sheet", blocks.sheet(0, 0, 32), reference.sheet(0, 0, 32));
        int pairs = 1 + random.nextInt(4);
        int guide = random.nextInt(5);
        for (int k = 0; k < pairs; k++) {
            int p = random.nextInt(24);
            int q = blocks.move(guide, p);
            check.due("item", blocks.item(0, 0, 2 * k, p), reference.item(0, 0, 2 * k, p));
            check.due("item", blocks.item(0, 0, 2 * k + 1, q), reference.item(0, 0, 2 * k + 1, q));
        }
        check.due("retrace(" + moves + ", 0, 0, 0, " + pairs + ")",
            blocks.retrace(moves, 0, 0, 0, pairs), reference.retrace(moves, 0, 0, 0, pairs));
        int[] row = blocks.row(4);
        for (int p = 0; p < 24; p++) {
            check.due("move(4, " + p + ")", row[p], reference.move(4, p));
        }
    }

    private static void knownOrders(Check check) {
        Bench blocks = new Bench();
        check.due("M24", blocks.group(15, 0), M24);
        check.due("M23", blocks.held(15, 1 << 9, 1), 10200960);
        check.due("M22", blocks.held(15, 1 << 9 | 1 << 23, 1), 443520);
        check.due("M21", blocks.held(15, 1 << 9 | 1 << 23 | 1, 1), 20160);
        check.due("of four points", blocks.held(15, 15 << 3, 1), 960);
        check.due("of five points", blocks.held(15, 31 << 3, 1), 48);
        check.due("of an octad", blocks.held(15, blocks.block(1, 77), 2), 322560);
        check.due("of its complement", blocks.held(15, 16777215 ^ blocks.block(1, 77), 2), 322560);
        check.due("M12", blocks.held(15, blocks.block(2, 2000), 2), 95040);
        check.due("of all points", blocks.held(15, 16777215, 2), M24);
        check.due("points of a dodecad", blocks.held(15, blocks.block(2, 2000), 1), 1);
        check.due("PSL(2, 23)", blocks.group(5, 0), 6072);
    }

    /** The elements that send a point somewhere are those that send it to one of all points. */
    private static void orderOfSum(Check check) {
        Bench blocks = new Bench();
        blocks.sheet(0, 3, 4);
        blocks.item(0, 3, 0, 5);
        blocks.item(0, 3, 1, 11);
        blocks.item(0, 3, 2, 7);
        for (int moves : new int[] {3, 5, 7, 9, 15}) {
            long sum = 0;
            for (int q = 0; q < 24; q++) {
                blocks.item(0, 3, 3, q);
                sum += blocks.retrace(moves, 0, 3, 0, 2);
            }
            long due = blocks.retrace(moves, 0, 3, 0, 1);
            check.due("the sum for " + moves, sum, due);
        }
    }

    // ---- the whole of M24: all permutations that preserve the octads, point by point

    private int[] octads;
    private final int[] goes = new int[24];
    private int used;
    private int[] first;
    private long number;

    private void searchInWholeGroup() {
        octads = new int[759];
        for (int k = 0; k < 759; k++) {
            octads[k] = (int) reference.block(1, k);
        }
        int pairs = 5 + random.nextInt(4);
        blocks.drift(1 + random.nextInt(40));
        blocks.sheet(0, 2, 32);
        java.util.Arrays.fill(goes, -1);
        used = 0;
        boolean isPossible = true;
        for (int k = 0; k < pairs; k++) {
            int p = random.nextInt(24);
            int q = random.nextInt(30) == 0 ? random.nextInt(24) : blocks.move(3, p);
            blocks.item(0, 2, 2 * k, p);
            blocks.item(0, 2, 2 * k + 1, q);
            isPossible &= goes[p] == q || goes[p] == -1 && (used & 1 << q) == 0;
            goes[p] = q;
            used |= 1 << q;
        }
        // With fewer points there are too many elements to search for.
        if (Integer.bitCount(used) < 5) {
            return;
        }
        int[] before = new int[24];
        for (int p = 0; p < 24; p++) {
            before[p] = blocks.move(4, p);
        }
        if (isPossible && fits()) {
            search(0);
        }
        long got = blocks.group(15, 0) == M24 ? blocks.retrace(15, 0, 2, 0, pairs) : -1;
        if (got >= 0) {
            check.due("the elements of M24 with " + pairs + " pairs", got, number);
            for (int p = 0; p < 24; p++) {
                check.due("move(4, " + p + ")", blocks.move(4, p), first != null ? first[p] : before[p]);
            }
        }
    }

    /** Whether no octad with five known points breaks. */
    private boolean fits() {
        for (int octad : octads) {
            int image = 0;
            for (int p = 0; p < 24; p++) {
                if ((octad & 1 << p) != 0 && goes[p] >= 0) {
                    image |= 1 << goes[p];
                }
            }
            if (Integer.bitCount(image) >= 5 && !isInOctad(image)) {
                return false;
            }
        }
        return true;
    }

    private boolean isInOctad(int set) {
        for (int octad : octads) {
            if ((set & ~octad) == 0) {
                return true;
            }
        }
        return false;
    }

    private void search(int p) {
        if (p == 24) {
            if (first == null) {
                first = goes.clone();
            }
            number++;
            return;
        }
        if (goes[p] >= 0) {
            search(p + 1);
            return;
        }
        for (int q = 0; q < 24; q++) {
            if ((used & 1 << q) == 0) {
                goes[p] = q;
                used |= 1 << q;
                if (fits()) {
                    search(p + 1);
                }
                used &= ~(1 << q);
                goes[p] = -1;
            }
        }
    }
}
