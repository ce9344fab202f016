/** The groups, and promises 14 to 16 and 27: no generators and all, generators that must not be, no elements and all. */
final class GroupBoundaries {
    private static final int ALL = Boundaries.ALL;
    private static final int D = Boundaries.D;
    private static final int M24 = Boundaries.M24;
    private static final int M23 = 10200960;
    private final Boundaries b;

    GroupBoundaries(Boundaries b) {
        this.b = b;
    }

    void test() {
        sets();
        elements();
        preserving();
        group();
        groupErrors();
        held();
        heldErrors();
        holds();
        given();
        lowest();
        pairs();
        retraceErrors();
        notPossible();
    }

    /** A sheet 0 of longs with these elements. */
    private static Bench bench(long... elements) {
        Bench x = new Bench();
        put(x, elements);
        return x;
    }

    private static void put(Bench x, long... elements) {
        x.sheet(0, 3, elements.length);
        for (int k = 0; k < elements.length; k++) {
            x.item(0, 3, k, elements[k]);
        }
    }

    private static int retrace(Bench x, int moves, long... elements) {
        put(x, elements);
        return x.retrace(moves, 0, 3, 0, elements.length / 2);
    }

    private void sets() {
        b.described("In the methods with a set of permutations, bit m stands for permutation m, 0 to 3; the set is 0 "
            + "to 15.");
        Reference reference = new Reference();
        for (int moves = 0; moves < 16; moves++) {
            Bench x = new Bench();
            b.due("group(" + moves + ", 0)", x.group(moves, 0), reference.group(moves, 0));
            b.holds("group(" + moves + ", 1)", x.group(moves, 1) > 0);
            b.holds("held(" + moves + ", 1, 0)", x.held(moves, 1, 0) > 0);
            b.due("holds(" + moves + ", 4)", x.holds(moves, 4), 1);
            for (int m = 0; m < 4; m++) {
                b.holds("a generator", (moves >> m & 1) == 0 || x.holds(moves, m) == 1);
            }
            b.holds("the identity", retrace(x, moves, 5, 5) > 0);
        }
        int[] outside = Boundaries.outside(0, 15);
        b.dueForEach("group", outside, -1, (x, moves) -> x.group(moves, 0));
        b.dueForEach("held", outside, -1, (x, moves) -> x.held(moves, 0, 0));
        b.dueForEach("holds", outside, -1, (x, moves) -> x.holds(moves, 4));
        b.dueForEach("retrace", outside, -1, (x, moves) -> retrace(x, moves, 0, 0));
        b.dueForEach("higher bits", new int[] {31, 1 << 31 | 1, 1 << 4}, -1, (x, moves) -> x.group(moves, 0));
    }

    private void elements() {
        b.described("The group of such permutations consists of all permutations that arise by applying these, as "
            + "often as "
            + "one likes and in any order, and of the identity.");
        Bench x = new Bench();
        b.due("no generators", x.group(0, 0), 1);
        b.due("the identity without generators", x.holds(0, 4), 1);
        b.due("nothing else without generators", x.holds(0, 0), 0);
        b.holds("in any order", x.reads(2, "step*twice^3*step^-5*twice") >= 0);
        b.due("in the group", x.holds(3, 2), 1);
        b.due("not with one alone", x.holds(1, 2) + x.holds(2, 2), 0);
        b.due("an inverse", x.reads(2, "step^-1") >= 0 ? x.holds(1, 2) : -9, 1);
        x.reads(0, "same");
        b.due("the identity alone", x.group(1, 0), 1);
        x.reads(1, "over");
        x.reads(2, "over");
        b.due("the same one twice", x.group(6, 0), 2);
        x.reads(3, "over^-1");
        b.due("with its inverse", x.group(15, 0), 2);
    }

    private void preserving() {
        b.described("Each of the permutations in the set must preserve the code (else NOT).");
        for (int m = 0; m < 4; m++) {
            Bench x = new Bench();
            put(x, 23, 23);
            x.reads(m, "(0,1)");
            for (int moves = 0; moves < 16; moves++) {
                boolean isNot = (moves >> m & 1) == 1;
                b.holds("group(" + moves + ", 1)", (x.group(moves, 1) == -2) == isNot);
                b.holds("held(" + moves + ", 1, 0)", (x.held(moves, 1, 0) == -2) == isNot);
                b.holds("holds(" + moves + ", 4)", (x.holds(moves, 4) == -2) == isNot);
                b.holds("retrace(" + moves + ", ..)", (x.retrace(moves, 0, 3, 0, 1) == -2) == isNot);
            }
        }
        Bench x = new Bench();
        for (int m = 0; m < 4; m++) {
            x.reads(m, "(" + m + ",23)");
        }
        b.due("none of them preserves it", x.group(15, 0), -2);
        b.due("none is needed", x.group(0, 0), 1);
    }

    private void group() {
        b.promised(14, "`what`: 0 its order; the number of its orbits on 1 the points, 2 the octads, 3 the dodecads, "
            + "4 the "
            + "sextets");
        int[][] due = {{0, 1, 24, 759, 2576, 1771}, {1, 23, 2, 33, 112, 77}, {15, M24, 1, 1, 1, 1}, {3, 253, 2, 3, -9, 7}};
        for (int[] row : due) {
            for (int what = 0; what < 5; what++) {
                if (row[what + 1] != -9) {
                    b.due("group(" + row[0] + ", " + what + ")", new Bench().group(row[0], what), row[what + 1]);
                }
            }
        }
        Bench x = new Bench();
        b.due("over is 12 swaps", x.group(4, 1), 12);
        b.due("its octads", x.group(4, 2), (759 + x.told(2, 5)) / 2);
        x.reads(0, "same");
        for (int what = 0; what < 5; what++) {
            b.due("the identity, " + what, x.group(1, what), due[0][what + 1]);
        }
    }

    private void groupErrors() {
        b.promised(14, "BAD if moves or what is out of range");
        b.dueForEach("group with moves", Boundaries.outside(0, 15), -1, (x, moves) -> x.group(moves, 4));
        b.dueForEach("group with what", Boundaries.outside(0, 4), -1, (x, what) -> x.group(0, what));
        b.dueForEach("group with what, no code", Boundaries.outside(0, 4), -1, (x, what) -> {
            x.reads(0, "(0,1)");
            return x.group(1, what);
        });
        b.promised(14, "NOT if one of these permutations does not preserve the code.");
        Bench x = new Bench();
        x.reads(0, "(0,1)");
        for (int what = 0; what < 5; what++) {
            b.due("the only one", x.group(1, what), -2);
            b.due("one of four", x.group(15, what), -2);
            b.holds("none of them", x.group(14, what) > 0);
        }
    }

    private void held() {
        b.promised(15, "`what`: 0 the set of all points to which a point of the set can go by the group; 1 how many "
            + "elements "
            + "of the group leave each point of the set where it is; 2 how many elements send the set to itself");
        Bench x = new Bench();
        int[][] due = {
            {0, 0, 0, 1, 1}, {0, ALL, ALL, 1, 1}, {0, 1 << 23, 1 << 23, 1, -2}, {15, 0, 0, M24, M24}, {15, ALL, ALL, 1, M24},
            {15, 1, ALL, M23, -2}, {15, 1 << 23, ALL, M23, -2}, {1, 1 << 23, 1 << 23, 23, -2}, {1, 1, ALL >> 1, 1, -2},
            {1, ALL, ALL, 1, 23}, {3, 1 << 23, 1 << 23, 253, -2}, {3, 1 << 23 | 1, ALL, 11, -2}, {3, 1, ALL >> 1, 11, -2},
            {15, D, ALL, 1, 95040}, {15, ALL ^ D, ALL, 1, 95040}, {15, 5279, ALL, 16, 322560},
            {15, ALL ^ 5279, ALL, 1, 322560}, {15, 31, ALL, 48, -2}, {15, 15 << 20, ALL, 960, -2}};
        for (int[] row : due) {
            for (int what = 0; what < 3; what++) {
                b.due("held(" + row[0] + ", " + row[1] + ", " + what + ")", x.held(row[0], row[1], what), row[what + 2]);
            }
        }
    }

    private void heldErrors() {
        b.promised(15, "BAD if an argument is out of range");
        for (int what = 0; what < 3; what++) {
            int of = what;
            b.dueForEach("moves", Boundaries.outside(0, 15), -1, (x, moves) -> x.held(moves, 0, of));
            b.dueForEach("set", Boundaries.outside(0, ALL), -1, (x, set) -> x.held(0, set, of));
        }
        b.dueForEach("what", Boundaries.outside(0, 2), -1, (x, what) -> x.held(0, 0, what));
        b.dueForEach("what, no word", Boundaries.outside(0, 2), -1, (x, what) -> x.held(0, 1, what));
        b.promised(15, "NOT if one of these permutations does not preserve the code, or what is 2 and the set is not "
            + "a word.");
        Bench x = new Bench();
        for (int set : new int[] {1, 15, 5279 ^ 1, D ^ 1 << 23, ALL ^ 1, 5279 ^ 3 << 22}) {
            b.due("no word", x.held(15, set, 2), -2);
            b.holds("no word, its points", x.held(15, set, 0) == ALL);
            b.holds("no word, each point", x.held(15, set, 1) > 0);
        }
        b.due("the empty word", x.held(1, 0, 2), 23);
        b.due("the word of all points", x.held(1, ALL, 2), 23);
        x.reads(0, "(0,1)");
        for (int what = 0; what < 3; what++) {
            b.due("no code and a word", x.held(1, 0, what), -2);
            b.due("no code and no word", x.held(3, 1, what), -2);
            int of = what;
            b.dueForEach("no code and no set", Boundaries.outside(0, ALL), -1, (y, set) -> {
                y.reads(0, "(0,1)");
                return y.held(1, set, of);
            });
        }
        b.due("without it", x.held(2, 0, 2), 11);
    }

    private void holds() {
        b.promised(16, "`m`: the permutation, 0 to 4, which need not preserve the code");
        Bench x = new Bench();
        x.reads(3, "(0,1)");
        b.due("not in the largest group without it", x.holds(7, 3), 0);
        b.due("not in the smallest group", x.holds(0, 3), 0);
        Bench y = new Bench();
        // It agrees with step at all points but two.
        y.reads(3, "step*(0,1)");
        b.due("nearly step", y.holds(1, 3), 0);
        b.due("nearly step, a large group", y.holds(7, 3), 0);
        y.reads(2, "(22,23)");
        b.due("nearly the identity", y.holds(3, 2), 0);
        b.promised(16, "Returns 1 if it is in the group, else 0");
        Bench z = new Bench();
        int[][] due = {{0, 4, 1}, {0, 0, 0}, {1, 0, 1}, {1, 1, 0}, {3, 2, 0}, {5, 1, 1}, {5, 3, 0}, {9, 1, 1}, {9, 2, 0},
            {15, 3, 1}, {15, 4, 1}};
        for (int[] row : due) {
            b.due("holds(" + row[0] + ", " + row[1] + ")", z.holds(row[0], row[1]), row[2]);
        }
        b.promised(16, "BAD if moves or m is out of range");
        b.dueForEach("holds with moves", Boundaries.outside(0, 15), -1, (w, moves) -> w.holds(moves, 0));
        b.dueForEach("holds with m", Boundaries.outside(0, 4), -1, (w, m) -> w.holds(0, m));
        b.dueForEach("holds with m, no code", Boundaries.outside(0, 4), -1, (w, m) -> {
            w.reads(0, "(0,1)");
            return w.holds(1, m);
        });
        b.promised(16, "NOT if one of the generating permutations does not preserve the code.");
        b.due("the generator itself", x.holds(8, 3), -2);
        b.due("another one", x.holds(8, 0), -2);
        b.due("the identity", x.holds(8, 4), -2);
        b.due("one of four", x.holds(15, 0), -2);
    }

    private void given() {
        b.promised(27, "Counts the elements of a group that send given points to given points.");
        Bench x = new Bench();
        b.due("no element", retrace(x, 1, 23, 0), 0);
        b.due("no generators, the point itself", retrace(x, 0, 0, 0), 1);
        b.due("no generators, another point", retrace(x, 0, 0, 1), 0);
        b.due("one element", retrace(x, 1, 22, 0), 1);
        b.due("all that leave a point", retrace(x, 1, 23, 23), 23);
        b.due("the largest group", retrace(x, 15, 0, 23), M23);
        b.due("a point to two points", retrace(x, 15, 0, 23, 0, 22), 0);
        b.due("two points to a point", retrace(x, 15, 0, 23, 1, 23), 0);
        b.due("a pair twice", retrace(x, 15, 0, 23, 0, 23), M23);
        b.due("a pair eight times", retrace(x, 15, 0, 23, 0, 23, 0, 23, 0, 23, 0, 23, 0, 23, 0, 23, 0, 23), M23);
        b.due("five points", retrace(x, 15, 0, 0, 1, 1, 2, 2, 3, 3, 4, 4), 48);
        b.due("an octad", retrace(x, 15, 0, 0, 1, 1, 2, 2, 3, 3, 4, 4, 7, 7, 10, 10, 12, 12), 16);
        b.due("an octad that is none then", retrace(x, 15, 0, 0, 1, 1, 2, 2, 3, 3, 4, 4, 7, 5), 0);
        b.due("eight points, the identity", retrace(x, 15, 0, 0, 1, 1, 2, 2, 3, 3, 4, 4, 5, 5, 6, 6, 8, 8), 1);
    }

    private void lowest() {
        b.promised(27, "If there are any, permutation 4 becomes the one of them that sends point 0 to the lowest "
            + "point, of "
            + "several the one that does so with point 1, and so on.");
        Bench x = new Bench();
        b.due("step", retrace(x, 1, 5, 6), 1);
        b.due("the only one", x.move(4, 0), 1);
        b.due("none", retrace(x, 1, 5, 23), 0);
        b.due("it stays then", x.move(4, 0), 1);
        b.due("step and twice", retrace(x, 3, 23, 23), 253);
        b.due("the lowest is the identity", x.told(4, 1), 24);
        // The elements are p to a * p + b with a square a: 5 to 0, so that 0 goes to b, and -5 * a is b.
        b.due("step and twice", retrace(x, 3, 5, 0), 11);
        int[] row = x.row(4);
        int lowest = 23;
        int second = 23;
        for (int a : new int[] {1, 2, 3, 4, 6, 8, 9, 12, 13, 16, 18}) {
            int at = Math.floorMod(-5 * a, 23);
            second = at < lowest ? (at + a) % 23 : second;
            lowest = Math.min(lowest, at);
        }
        b.due("0 to the lowest", row[0], lowest);
        b.due("1 then", row[1], second);
        b.due("5 to 0", row[5], 0);
        b.due("the last point to the first", retrace(x, 15, 23, 0), M23);
        int[] due = {1, 2, 3, 4, 5};
        for (int p = 0; p < 5; p++) {
            b.due("the lowest at " + p, x.move(4, p), due[p]);
        }
        b.due("23 to 0", x.move(4, 23), 0);
        b.promised(27, "(This is not a change that can be undone by itself.)");
        b.due("no change", x.count(1), 0);
        b.due("nothing to undo", x.undo(), -4);
        b.due("4 stays", x.move(4, 23), 0);
        x.reads(0, "same");
        b.due("found", retrace(x, 2, 1, 2), 1);
        b.due("one change", x.count(1), 1);
        b.due("which is undone", x.undo(), 0);
        b.due("with what was found", x.move(4, 23), 0);
    }

    private void pairs() {
        b.promised(27, "They are given by 2 * n elements of a sheet from index i on, n times a point and the point "
            + "to which it "
            + "is to go.", "INDEX if the elements are not all within the sheet");
        Bench x = bench(9, 4, 5, 23, 23, 99);
        b.due("from the second on", x.retrace(1, 0, 3, 1, 1), 1);
        b.due("4 to 5", x.move(4, 4), 5);
        b.due("two pairs", x.retrace(1, 0, 3, 1, 2), 1);
        b.due("the last one is no point", x.retrace(1, 0, 3, 4, 1), -2);
        b.due("up to the end", x.retrace(1, 0, 3, 0, 3), -2);
        for (int n = 1; n <= 8; n++) {
            Bench y = new Bench();
            y.sheet(2, 0, 2 * n);
            b.due(n + " pairs fill the sheet", y.retrace(15, 2, 0, 0, n), M23);
            b.due("one further", y.retrace(15, 2, 0, 1, n), -13);
            b.due("one too early", y.retrace(15, 2, 0, -1, n), -13);
            y.sheet(2, 0, 2 * n - 1);
            b.due("one too short", y.retrace(15, 2, 0, 0, n), -13);
            y.sheet(2, 0, 32);
            b.due(n + " pairs at the end", y.retrace(15, 2, 0, 32 - 2 * n, n), M23);
            b.due("one further", y.retrace(15, 2, 0, 33 - 2 * n, n), -13);
        }
        for (int i : new int[] {6, 7, Boundaries.MAX, Boundaries.MAX - 1, Boundaries.MIN, -2}) {
            b.due("from " + i, x.retrace(1, 0, 3, i, 1), -13);
        }
        Bench empty = new Bench();
        empty.sheet(0, 3, 0);
        b.due("an empty sheet", empty.retrace(1, 0, 3, 0, 1), -13);
    }

    private void retraceErrors() {
        b.promised(27, "`sheet`: the sheet, 0 to 3", "`lane`: its lane, 0 to 3", "`n`: the number of pairs, 1 to 8",
            "BAD if moves, sheet, lane or n is out of range");
        for (int k = 0; k < 4; k++) {
            Bench x = new Bench();
            x.sheet(k, 3 - k, 16);
            b.due("sheet " + k, x.retrace(15, k, 3 - k, 0, 8), M23);
        }
        b.dueForEach("moves", Boundaries.outside(0, 15), -1, (x, v) -> x.retrace(v, 0, 0, 0, 1));
        b.dueForEach("sheet", Boundaries.outside(0, 3), -1, (x, v) -> x.retrace(15, v, 0, 0, 1));
        b.dueForEach("lane", Boundaries.outside(0, 3), -1, (x, v) -> x.retrace(15, 0, v, 0, 1));
        b.dueForEach("n", Boundaries.outside(1, 8), -1, (x, v) -> x.retrace(15, 0, 0, 0, v));
        b.dueForEach("n of a sheet", Boundaries.outside(1, 8), -1, (x, v) -> {
            x.sheet(0, 0, 32);
            return x.retrace(15, 0, 0, 0, v);
        });
        b.promised(27, "NULL");
        Bench x = new Bench();
        b.due("no sheet", x.retrace(15, 0, 0, 0, 1), -11);
        x.sheet(0, 0, 2);
        x.drop(0);
        b.due("no sheet any more", x.retrace(15, 0, 0, 0, 1), -11);
        b.promised(27, "CAST");
        for (int lane = 0; lane < 4; lane++) {
            x.sheet(0, lane, 2);
            for (int told = 0; told < 4; told++) {
                b.due("lane " + lane + ", told " + told, x.retrace(15, 0, told, 0, 1), told == lane ? M23 : -12);
            }
        }
    }

    private void notPossible() {
        b.promised(27, "NOT if one of the generating permutations does not preserve the code, or an element is not a "
            + "point.");
        Bench x = new Bench();
        long[] values = {-1, 24, 255, 1L << 32, Long.MIN_VALUE, Long.MAX_VALUE, -(1L << 32), (1L << 32) + 5};
        for (long value : values) {
            b.due("from " + value, retrace(x, 15, value, 0), -2);
            b.due("to " + value, retrace(x, 15, 0, value), -2);
            b.due("the last one, " + value, retrace(x, 15, 0, 1, 0, 2, 3, value), -2);
            b.due("without generators, " + value, retrace(x, 0, 0, value), -2);
        }
        b.due("the last point", retrace(x, 15, 23, 23), M23);
        x.reads(0, "(0,1)");
        b.due("no code", retrace(x, 1, 0, 0), -2);
        b.due("no code among others", retrace(x, 15, 0, 0), -2);
        b.due("others", retrace(x, 2, 0, 0), 11);
        b.due("no code and no point", retrace(x, 1, 24, 0), -2);
        b.due("permutation 4 is that of before", x.told(4, 1), 24);
    }
}
