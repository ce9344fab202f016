import java.util.Arrays;

/** The code, and promises 2 to 7: where sets, numbers and distances begin and end. */
final class CodeBoundaries {
    private static final int[] NO_SETS = Boundaries.outside(0, Boundaries.ALL);
    private static final int ALL = Boundaries.ALL;
    private static final int LOWEST_OCTAD = 5279;
    private final Boundaries b;
    private final int[] words = new int[4096];
    private final int[] octads = new int[759];

    CodeBoundaries(Boundaries b) {
        this.b = b;
        int[] starts = {5, 7, 10, 11, 14, 15, 17, 19, 20, 21, 22};
        for (int n = 0; n < 4096; n++) {
            for (int k = 0; k < 12; k++) {
                for (int start : starts) {
                    words[n] ^= (n >> k & 1) << (start - k + 23) % 23;
                }
                words[n] ^= (n >> k & 1) << 23;
            }
        }
        int[] found = Arrays.stream(words).filter(w -> Integer.bitCount(w) == 8).sorted().toArray();
        System.arraycopy(found, 0, octads, 0, 759);
    }

    void test() {
        points();
        sets();
        words();
        lists();
        distances();
        tetrads();
        word();
        block();
        complete();
        sextet();
        both();
        met();
    }

    private void points() {
        b.described("There are 24 points, 0 to 23.");
        Bench x = new Bench();
        b.due("the last point", x.move(4, 23), 23);
        b.due("the first point", x.move(4, 0), 0);
        b.dueForEach("move", Boundaries.outside(0, 23), -1, (y, p) -> y.move(4, p));
        b.dueForEach("turn", Boundaries.outside(0, 23), -1, (y, p) -> y.turn(p, 0));
        b.due("no more points", x.word(ALL, 0), 24);
    }

    private void sets() {
        b.described("A set of points is an int from 0 to 16777215, in which bit p stands for point p.");
        Boundaries.Argument[] calls = {(x, s) -> x.word(s, 2), (x, s) -> x.complete(s), (x, s) -> x.sextet(s, 0),
            (x, s) -> x.both(s, 15), (x, s) -> x.both(15, s), (x, s) -> x.met(s, 0), (x, s) -> x.sent(0, s),
            (x, s) -> x.held(0, s, 0), (x, s) -> x.choose(s), (x, s) -> x.hexad(s), (x, s) -> x.pair(s)};
        for (int k = 0; k < calls.length; k++) {
            b.dueForEach("call " + k, NO_SETS, -1, calls[k]);
            b.holds("the empty set in call " + k, calls[k].on(new Bench(), 0) != -1);
            b.holds("all points in call " + k, calls[k].on(new Bench(), ALL) != -1);
        }
        Bench x = new Bench();
        for (int p = 0; p < 24; p++) {
            b.due("bit " + p, x.sent(2, 1 << p), 1L << x.move(2, p));
        }
    }

    private void words() {
        b.described("The basis word k, 0 to 11, consists of point 23 and of the points (n - k) modulo 23 for n = 5, 7, "
            + "10, 11, 14, 15, 17, 19, 20, 21 and 22.");
        Bench x = new Bench();
        b.due("basis word 0 wraps nowhere", x.block(0, 1), 1 << 5 | 1 << 7 | 1 << 10 | 1 << 11 | 1 << 14 | 1 << 15
            | 1 << 17 | 1 << 19 | 1 << 20 | 1 << 21 | 1 << 22 | 1 << 23);
        b.due("basis word 5 begins at 0", x.block(0, 32), 1 << 0 | 1 << 2 | 1 << 5 | 1 << 6 | 1 << 9 | 1 << 10
            | 1 << 12 | 1 << 14 | 1 << 15 | 1 << 16 | 1 << 17 | 1 << 23);
        b.due("basis word 6 wraps 5 to 22", x.block(0, 64), 1 << 22 | 1 << 1 | 1 << 4 | 1 << 5 | 1 << 8 | 1 << 9
            | 1 << 11 | 1 << 13 | 1 << 14 | 1 << 15 | 1 << 16 | 1 << 23);
        b.due("basis word 11 wraps three", x.block(0, 2048), 1 << 17 | 1 << 19 | 1 << 22 | 1 << 0 | 1 << 3 | 1 << 4
            | 1 << 6 | 1 << 8 | 1 << 9 | 1 << 10 | 1 << 11 | 1 << 23);
        b.described("Word n, 0 to 4095, consists of the points that are in an odd number of the basis words k for "
            + "which bit k of n is set.");
        b.due("no basis words", x.block(0, 0), 0);
        b.due("all basis words", x.block(0, 4095), 1405448);
        for (int first = 0; first < 4096; first += 512) {
            Bench y = new Bench();
            for (int n = first; n < first + 512; n++) {
                b.due("word " + n, y.block(0, n), words[n]);
            }
        }
        b.due("behind the last word", x.block(0, 4096), -1);
        b.due("before the first word", x.block(0, -1), -1);
    }

    private void lists() {
        b.described("An octad is a word with 8 points, a dodecad one with 12 points.",
            "There are 759 octads and 2576 dodecads, each numbered in ascending order of the sets as numbers.");
        int[] ends = {759, 2576};
        for (int what = 1; what <= 2; what++) {
            int points = 4 + 4 * what;
            int[] due = Arrays.stream(words).filter(w -> Integer.bitCount(w) == points).sorted().toArray();
            b.due("how many there are", due.length, ends[what - 1]);
            Bench x = new Bench();
            for (int k = 0; k < due.length; k++) {
                x = k % 500 == 0 ? new Bench() : x;
                b.due("block(" + what + ", " + k + ")", x.block(what, k), due[k]);
            }
            b.due("behind the last one", x.block(what, due.length), -1);
            b.due("before the first one", x.block(what, -1), -1);
        }
    }

    /** The distance, how many words have it, and the lowest of these. */
    private int[] nearest(int set) {
        int[] found = {25, 0, 0};
        for (int word : words) {
            int away = Integer.bitCount(word ^ set);
            if (away < found[0] || away == found[0] && word < found[2]) {
                found[2] = word;
            }
            found[1] = away < found[0] ? 1 : found[1] + (away == found[0] ? 1 : 0);
            found[0] = Math.min(found[0], away);
        }
        return found;
    }

    private void distances() {
        b.described("The distance of two sets is the number of points that are in exactly one of them.");
        Bench x = new Bench();
        int word = words[1234];
        int[] away = {0, 1 << 23, 1 << 23 | 1, 1 << 22 | 1 << 12 | 1 << 11, 15, 15 << 20, 31, 31 << 19, 63 << 9, 127, 255,
            ALL};
        for (int set : away) {
            int[] due = nearest(word ^ set);
            b.due("the distance with " + set + " away", x.word(word ^ set, 2), due[0]);
            b.due("the words there with " + set + " away", x.word(word ^ set, 3), due[1]);
            b.due("the lowest with " + set + " away", x.word(word ^ set, 4), due[2]);
        }
        b.due("no distance is above 4", x.word(word ^ 15, 2), 4);
    }

    private void tetrads() {
        b.described("The tetrads of a set of four points are the set itself and the sets of four other points each of "
            + "which is an octad together with it.",
            "There are six, numbered by their lowest points; together they are called a sextet.");
        Bench x = new Bench();
        for (int four : new int[] {15, 15 << 20, 1 | 1 << 23 | 1 << 12 | 1 << 11, 3 | 3 << 22, 15 << 10}) {
            int all = 0;
            int itself = 0;
            for (int k = 0; k < 6; k++) {
                int tetrad = x.sextet(four, k);
                int free = ALL & ~all;
                b.due("the lowest point of tetrad " + k + " of " + four, tetrad & -tetrad, free & -free);
                b.due("four points", Integer.bitCount(tetrad), 4);
                b.due("other points than before", tetrad & all, 0);
                boolean isOctad = Arrays.binarySearch(octads, tetrad | four) >= 0;
                b.holds("itself or an octad together", tetrad == four || isOctad);
                itself += tetrad == four ? 1 : 0;
                all |= tetrad;
            }
            b.due("the set itself is one", itself, 1);
            b.due("there are six", x.sextet(four, 6), -1);
        }
        b.due("the lowest set is the first", x.sextet(15, 0), 15);
        b.due("the highest set is the last", x.sextet(15 << 20, 5), 15 << 20);
    }

    private void word() {
        b.promised(2, "`what`: 0 the number of its points; 1 the number n of the word that it is, NONE if it is none; "
            + "2 its distance to the code: the smallest distance to a word; 3 the number of words at this distance; 4 the "
            + "lowest of these words, as a set; 5 the number of octads that are subsets of it; 6 the number of octads of "
            + "which it is a subset");
        int octad = LOWEST_OCTAD;
        int[][] due = {
            {0, 0, 0, 0, 1, 0, 0, 759}, {ALL, 24, 3189, 0, 1, ALL, 759, 0}, {octad, 8, -5, 0, 1, octad, 1, 1},
            {ALL ^ octad, 16, -5, 0, 1, ALL ^ octad, 30, 0}, {Boundaries.D, 12, 1, 0, 1, Boundaries.D, 0, 0},
            {1, 1, -4, 1, 1, 0, 0, 253}, {1 << 23, 1, -4, 1, 1, 0, 0, 253}, {3, 2, -4, 2, 1, 0, 0, 77},
            {7, 3, -4, 3, 1, 0, 0, 21}, {15, 4, -4, 4, 6, 0, 0, 5}, {31, 5, -4, 3, 1, octad, 0, 1},
            {octad ^ 1 ^ 1 << 23, 8, -4, 2, 1, octad, 0, 0}, {ALL ^ 1, 23, -4, 1, 1, ALL, 506, 0},
            {octad ^ 1, 7, -4, 1, 1, octad, 0, 1}};
        for (int[] row : due) {
            Bench x = new Bench();
            for (int what = 0; what < 7; what++) {
                int want = row[what + 1] == -5 ? numberOf(row[0]) : row[what + 1];
                b.due("word(" + row[0] + ", " + what + ")", x.word(row[0], what), want);
            }
        }
        b.promised(2, "BAD if set is out of range or what is not 0 to 6.");
        for (int what = 0; what < 7; what++) {
            int of = what;
            b.dueForEach("word with what " + what, NO_SETS, -1, (x, s) -> x.word(s, of));
        }
        b.dueForEach("word with what", Boundaries.outside(0, 6), -1, (x, w) -> x.word(0, w));
        b.dueForEach("word with what", Boundaries.outside(0, 6), -1, (x, w) -> x.word(-1, w));
    }

    private int numberOf(int word) {
        return Arrays.stream(words).boxed().toList().indexOf(word);
    }

    private void block() {
        b.promised(3, "`what`: 0 for word k; 1 for octad k; 2 for dodecad k");
        Bench x = new Bench();
        int[][] due = {{0, 0, 0}, {0, 1, Boundaries.D}, {0, 4095, 1405448}, {1, 0, LOWEST_OCTAD}, {1, 758, 16262146},
            {2, 0, 28637}, {2, 2575, 16748578}};
        for (int[] row : due) {
            b.due("block(" + row[0] + ", " + row[1] + ")", x.block(row[0], row[1]), row[2]);
        }
        b.promised(3, "BAD if what is not 0 to 2 or there is no such number.");
        int[] lasts = {4095, 758, 2575};
        for (int what = 0; what < 3; what++) {
            int of = what;
            b.dueForEach("block with what " + what, Boundaries.outside(0, lasts[what]), -1, (y, k) -> y.block(of, k));
        }
        b.dueForEach("block with what", Boundaries.outside(0, 2), -1, (y, w) -> y.block(w, 0));
        b.due("an octad's number is not a word's", x.block(1, 4095), -1);
        b.due("a dodecad's number is not a word's", x.block(2, 4095), -1);
    }

    private void complete() {
        b.promised(4, "BAD if set is out of range");
        b.dueForEach("complete", NO_SETS, -1, (x, s) -> x.complete(s));
        b.due("five points and one outside", new Bench().complete(15 | 1 << 24), -1);
        b.promised(4, "NOT if it does not have five points.");
        int[] wrong = {0, 1, 15, 15 << 20, 63, 63 << 18, LOWEST_OCTAD, Boundaries.D, ALL};
        b.dueForEach("complete", wrong, -2, (x, s) -> x.complete(s));
        b.due("the lowest five points", new Bench().complete(31), LOWEST_OCTAD);
        int high = new Bench().complete(31 << 19);
        b.due("the highest five points", high & 31 << 19, 31 << 19);
        b.holds("an octad", Arrays.binarySearch(octads, high) >= 0);
    }

    private void sextet() {
        b.promised(5, "`k`: the number of the tetrad, 0 to 5", "BAD if set or k is out of range");
        b.due("the first one", new Bench().sextet(15, 0), 15);
        b.due("the last one", new Bench().sextet(15, 5), 3416064);
        b.dueForEach("sextet with k", Boundaries.outside(0, 5), -1, (x, k) -> x.sextet(15, k));
        b.dueForEach("sextet with k and no four points", Boundaries.outside(0, 5), -1, (x, k) -> x.sextet(7, k));
        b.dueForEach("sextet", NO_SETS, -1, (x, s) -> x.sextet(s, 0));
        b.promised(5, "NOT if set does not have four points.");
        int[] wrong = {0, 7, 7 << 21, 31, 31 << 19, LOWEST_OCTAD, ALL};
        b.dueForEach("sextet", wrong, -2, (x, s) -> x.sextet(s, 0));
        b.dueForEach("sextet", wrong, -2, (x, s) -> x.sextet(s, 5));
    }

    private void both() {
        b.promised(6, "Counts the octads each of which is the union of two tetrads of a set of four points, and also "
            + "the "
            + "union of two tetrads of another one.");
        Bench x = new Bench();
        // Four of the points 0 to 4, 7, 10 and 12 of the lowest octad, and three of them with another point.
        int[] others = {1 << 0 | 1 << 1 | 1 << 4 | 1 << 7, 1 << 0 | 1 << 1 | 1 << 2 | 1 << 4, 7 | 1 << 5, 15 << 20, 51};
        for (int other : others) {
            b.due("both(15, " + other + ")", x.both(15, other), unionsInCommon(15, other));
        }
        b.due("all that there can be", x.both(15, 15), 15);
        b.due("none", x.both(15, 240), 0);
        b.promised(6, "`other`: a set of four points; it may be the same");
        b.due("the lowest set twice", x.both(15, 15), 15);
        b.due("the highest set twice", x.both(15 << 20, 15 << 20), 15);
        b.due("another tetrad of the same sextet", x.both(15, x.sextet(15, 5)), 15);
        b.promised(6, "BAD if one of the sets is out of range");
        b.dueForEach("the first one", NO_SETS, -1, (y, s) -> y.both(s, 15));
        b.dueForEach("the second one", NO_SETS, -1, (y, s) -> y.both(15, s));
        b.dueForEach("the first one, and the second not of four", NO_SETS, -1, (y, s) -> y.both(s, 7));
        b.dueForEach("the second one, and the first not of four", NO_SETS, -1, (y, s) -> y.both(7, s));
        b.promised(6, "NOT if one of them does not have four points.");
        int[] wrong = {0, 7, 31, ALL};
        b.dueForEach("the first one", wrong, -2, (y, s) -> y.both(s, 15));
        b.dueForEach("the second one", wrong, -2, (y, s) -> y.both(15, s));
        b.dueForEach("both of them", wrong, -2, (y, s) -> y.both(s, s));
    }

    private int unionsInCommon(int one, int other) {
        int number = 0;
        for (int octad : octads) {
            number += isUnion(octad, one) && isUnion(octad, other) ? 1 : 0;
        }
        return number;
    }

    /** Whether the octad has each tetrad of a set whole or not at all. */
    private boolean isUnion(int octad, int four) {
        int common = octad & four;
        boolean isUnion = common == 0 || common == four;
        for (int around : octads) {
            if ((around & four) == four) {
                int tetrad = around ^ four;
                isUnion &= (octad & tetrad) == 0 || (octad & tetrad) == tetrad;
            }
        }
        return isUnion;
    }

    private void met() {
        b.promised(7, "`k`: 0 to 8", "BAD if set or k is out of range.");
        b.dueForEach("met with k", Boundaries.outside(0, 8), -1, (x, k) -> x.met(ALL, k));
        b.dueForEach("met", NO_SETS, -1, (x, s) -> x.met(s, 0));
        b.dueForEach("met", NO_SETS, -1, (x, s) -> x.met(s, 8));
        b.promised(7, "Counts the octads that have exactly k points in common with a set.");
        Bench x = new Bench();
        int[] sets = {0, 1, 15, LOWEST_OCTAD, ALL ^ LOWEST_OCTAD, Boundaries.D, ALL ^ 1 << 23, ALL};
        for (int set : sets) {
            for (int k = 0; k <= 8; k++) {
                int points = k;
                long due = Arrays.stream(octads).filter(o -> Integer.bitCount(o & set) == points).count();
                b.due("met(" + set + ", " + k + ")", x.met(set, k), due);
            }
        }
        b.due("no points, none in common", x.met(0, 0), 759);
        b.due("all points, eight in common", x.met(ALL, 8), 759);
        b.due("an octad with itself", x.met(LOWEST_OCTAD, 8), 1);
    }
}
