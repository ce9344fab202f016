/** The sheets, and promises 28 to 32: no sheets, empty and full ones, first and last elements, values that are narrowed. */
final class SheetBoundaries {
    private static final int MIN = Boundaries.MIN;
    private static final int MAX = Boundaries.MAX;
    private static final int NO_POINT = -9;
    private final Boundaries b;

    SheetBoundaries(Boundaries b) {
        this.b = b;
    }

    void test() {
        numbers();
        lanes();
        indices();
        film();
        filmErrors();
        sheet();
        drop();
        item();
        narrowing();
        itemErrors();
        copy();
        copyWithinOne();
        copyErrors();
        copyIndices();
    }

    /** A sheet with the elements 1, 2, 3 and so on. */
    private static Bench counting(int sheet, int lane, int n) {
        Bench x = new Bench();
        addCounting(x, sheet, lane, n);
        return x;
    }

    private static void addCounting(Bench x, int sheet, int lane, int n) {
        x.sheet(sheet, lane, n);
        for (int k = 0; k < n; k++) {
            x.item(sheet, lane, k, (k + 1) % 24);
        }
    }

    /**
     * Elements from an index on, told by copying each beside a point on sheet 3: without generators, retrace() finds the
     * identity if both are the same point.
     */
    private void dueElements(String when, Bench x, int sheet, int lane, int i, int... due) {
        x.sheet(3, lane, 2);
        for (int k = 0; k < due.length; k++) {
            x.copy(sheet, i + k, 3, 0, 1);
            x.item(3, lane, 1, Math.max(0, due[k]));
            int want = due[k] == NO_POINT ? -2 : 1;
            b.due(when + ": element " + (i + k), x.retrace(0, 3, lane, 0, 1), want);
        }
    }

    private void numbers() {
        b.described("There are four sheets, 0 to 3, none of which exists at first.");
        Bench x = new Bench();
        for (int sheet = 0; sheet < 4; sheet++) {
            b.due("no sheet yet", x.drop(sheet), -11);
            b.due("no sheet yet", x.item(sheet, 0, 0, 0L), -11);
            b.due("no sheet yet", x.film(0, sheet, 0, 0), -11);
            b.due("no sheet yet", x.retrace(0, sheet, 0, 0, 1), -11);
            b.due("no sheet yet", x.copy(sheet, 0, sheet, 0, 0), -11);
        }
        for (int sheet = 0; sheet < 4; sheet++) {
            b.due("sheet " + sheet, x.sheet(sheet, sheet, 5 + sheet), 5 + sheet);
        }
        for (int sheet = 0; sheet < 4; sheet++) {
            b.due("all are there", x.drop(sheet), 5 + sheet);
        }
        int[] outside = Boundaries.outside(0, 3);
        b.dueForEach("sheet", outside, -1, (y, k) -> y.sheet(k, 0, 0));
        b.dueForEach("drop", outside, -1, (y, k) -> y.drop(k));
        b.dueForEach("item", outside, -1, (y, k) -> y.item(k, 0, 0, 0L));
        b.dueForEach("film", outside, -1, (y, k) -> y.film(0, k, 0, 0));
        b.dueForEach("retrace", outside, -1, (y, k) -> y.retrace(0, k, 0, 0, 1));
        b.dueForEach("copy from", outside, -1, (y, k) -> y.copy(k, 0, 0, 0, 0));
        b.dueForEach("copy to", outside, -1, (y, k) -> y.copy(0, 0, k, 0, 0));
    }

    private void lanes() {
        b.described("A sheet has an element type, its lane, 0 byte, 1 short, 2 int or 3 long, and 0 to 32 elements.");
        for (int lane = 0; lane < 4; lane++) {
            Bench x = new Bench();
            for (int n : new int[] {0, 1, 31, 32}) {
                b.due("a sheet of " + n, x.sheet(0, lane, n), n);
                b.due("its last element", x.item(0, lane, n - 1, 1L), n == 0 ? -13 : 1);
                b.due("behind it", x.item(0, lane, n, 1L), -13);
                b.due("it has " + n, x.drop(0), n);
            }
        }
        b.dueForEach("sheet of lane", Boundaries.outside(0, 3), -1, (x, lane) -> x.sheet(0, lane, 1));
        b.dueForEach("sheet of length", new int[] {33, MAX}, -1, (x, n) -> x.sheet(0, 0, n));
        b.dueForEach("sheet of length", new int[] {-1, MIN}, -14, (x, n) -> x.sheet(0, 0, n));
    }

    private void indices() {
        b.described("INDEX is also returned if no element is accessed, but an index is negative or greater than the "
            + "length.");
        for (int n : new int[] {0, 1, 5, 32}) {
            Bench x = new Bench();
            x.sheet(0, 0, n);
            x.sheet(1, 0, 3);
            for (int i : new int[] {0, n, -1, n + 1, MIN, MAX}) {
                int due = i == 0 || i == n ? 0 : -13;
                b.due("nothing of " + n + " from " + i, x.copy(0, i, 1, 0, 0), due);
                b.due("nothing to " + n + " at " + i, x.copy(1, 0, 0, i, 0), due);
                b.due("nothing to the end of the other one", x.copy(0, i, 1, 3, 0), due);
                b.due("nothing behind the end of the other one", x.copy(0, i, 1, 4, 0), -13);
                b.due("nothing within one sheet at " + i, x.copy(0, i, 0, i, 0), due);
            }
        }
    }

    private void film() {
        b.promised(28, "Writes where the points 0 to 23 go by a permutation to 24 elements of a sheet.", "Returns 24");
        for (int m = 0; m < 5; m++) {
            Bench x = new Bench();
            b.holds("a sheet", x.sheet(0, m % 4, 32) == 32);
            for (int i = 0; i < 32; i++) {
                x.item(0, m % 4, i, 24L);
            }
            b.due("film(" + m + ", ..)", x.film(m, 0, m % 4, 4), 24);
            dueElements("the whole of " + m, x, 0, m % 4, 4, x.row(m));
            dueElements("before and behind it", x, 0, m % 4, 0, NO_POINT, NO_POINT, NO_POINT, NO_POINT);
            dueElements("before and behind it", x, 0, m % 4, 28, NO_POINT, NO_POINT, NO_POINT, NO_POINT);
        }
        b.promised(28, "INDEX if the elements are not all within the sheet.");
        int[][] due = {{24, 0, 24}, {24, 1, -13}, {24, -1, -13}, {23, 0, -13}, {0, 0, -13}, {25, 1, 24}, {25, 2, -13},
            {32, 8, 24}, {32, 9, -13}, {32, 32, -13}, {32, 33, -13}, {32, MAX, -13}, {32, MAX - 23, -13}, {32, MIN, -13}};
        for (int[] row : due) {
            Bench x = new Bench();
            x.sheet(0, 0, row[0]);
            b.due("film at " + row[1] + " of " + row[0], x.film(0, 0, 0, row[1]), row[2]);
        }
        Bench x = counting(0, 0, 25);
        b.due("one too far", x.film(2, 0, 0, 2), -13);
        dueElements("nothing was written", x, 0, 0, 0, 1, 2, 3, 4, 5);
    }

    private void filmErrors() {
        b.promised(28, "`m`: the permutation, 0 to 4", "`sheet`: the sheet, 0 to 3", "`lane`: its lane, 0 to 3",
            "BAD if m, sheet or lane is out of range");
        b.dueForEach("film of", Boundaries.outside(0, 4), -1, (x, m) -> x.film(m, 0, 0, 0));
        b.dueForEach("film to", Boundaries.outside(0, 3), -1, (x, sheet) -> x.film(0, sheet, 0, 0));
        b.dueForEach("film with lane", Boundaries.outside(0, 3), -1, (x, lane) -> x.film(0, 0, lane, 0));
        b.promised(28, "NULL");
        Bench x = new Bench();
        b.due("no sheet", x.film(0, 3, 3, 0), -11);
        x.sheet(3, 3, 24);
        b.due("a sheet", x.film(4, 3, 3, 0), 24);
        x.drop(3);
        b.due("no sheet any more", x.film(0, 3, 3, 0), -11);
        b.promised(28, "CAST");
        for (int lane = 0; lane < 4; lane++) {
            x.sheet(3, lane, 24);
            for (int told = 0; told < 4; told++) {
                b.due("lane " + lane + ", told " + told, x.film(0, 3, told, 0), told == lane ? 24 : -12);
            }
        }
    }

    private void sheet() {
        b.promised(29, "Creates a sheet of zeros.", "Returns n");
        Bench x = new Bench();
        b.due("a full one", x.sheet(0, 0, 32), 32);
        dueElements("zeros", x, 0, 0, 0, new int[32]);
        b.promised(29, "It replaces the one that existed.");
        Bench y = counting(0, 0, 32);
        b.due("one of the same lane", y.sheet(0, 0, 32), 32);
        dueElements("zeros", y, 0, 0, 0, new int[32]);
        Bench z = counting(0, 0, 5);
        b.due("a shorter one", z.sheet(0, 3, 2), 2);
        b.due("its lane", z.item(0, 0, 0, 0L), -12);
        b.due("its length", z.item(0, 3, 2, 0L), -13);
        b.due("a longer one", z.sheet(0, 3, 6), 6);
        dueElements("zeros", z, 0, 3, 0, new int[6]);
        b.due("an empty one", z.sheet(0, 3, 0), 0);
        b.due("it exists", z.drop(0), 0);
        b.promised(29, "`sheet`: the sheet, 0 to 3", "`lane`: its lane, 0 to 3", "`n`: the number of elements, at "
            + "most 32",
            "BAD if sheet or lane is out of range or n is above 32");
        for (int k = 0; k < 4; k++) {
            b.due("the longest sheet " + k, new Bench().sheet(k, 3 - k, 32), 32);
            b.due("the shortest sheet " + k, new Bench().sheet(k, 3 - k, 0), 0);
        }
        b.dueForEach("sheet", Boundaries.outside(0, 3), -1, (w, v) -> w.sheet(v, 0, 1));
        b.dueForEach("lane", Boundaries.outside(0, 3), -1, (w, v) -> w.sheet(0, v, 1));
        b.dueForEach("n", new int[] {33, 34, 64, MAX}, -1, (w, v) -> w.sheet(0, 0, v));
        b.dueForEach("sheet with a negative length", Boundaries.outside(0, 3), -1, (w, v) -> w.sheet(v, 0, -1));
        b.dueForEach("lane with a negative length", Boundaries.outside(0, 3), -1, (w, v) -> w.sheet(0, v, -1));
        b.promised(29, "SIZE if n is negative.");
        Bench v = counting(0, 0, 5);
        b.due("n is -1", v.sheet(0, 0, -1), -14);
        b.due("n is the lowest", v.sheet(0, 1, MIN), -14);
        b.due("no sheet comes", v.sheet(1, 0, -1), -14);
        b.due("none", v.drop(1), -11);
        dueElements("the old one stays", v, 0, 0, 0, 1, 2, 3, 4, 5);
    }

    private void drop() {
        b.promised(30, "`sheet`: the sheet, 0 to 3", "BAD if sheet is out of range");
        b.dueForEach("drop", Boundaries.outside(0, 3), -1, (x, sheet) -> x.drop(sheet));
        b.promised(30, "Returns how many elements it had", "Removes a sheet.");
        Bench x = new Bench();
        for (int sheet = 0; sheet < 4; sheet++) {
            x.sheet(sheet, 0, sheet == 3 ? 32 : sheet);
        }
        b.due("an empty one", x.drop(0), 0);
        b.due("the first of one element", x.drop(1), 1);
        b.due("a full one", x.drop(3), 32);
        b.due("it is removed", x.item(3, 0, 0, 0L), -11);
        b.due("the others stay", x.item(2, 0, 1, 0L), 1);
        b.promised(30, "NULL.");
        b.due("a removed one", x.drop(3), -11);
        b.due("a new object", new Bench().drop(0), -11);
        x.sheet(3, 0, 4);
        b.due("one again", x.drop(3), 4);
    }

    private void item() {
        b.promised(31, "Sets an element of a sheet.", "Returns 1");
        Bench x = counting(0, 2, 5);
        b.due("the first", x.item(0, 2, 0, 11L), 1);
        b.due("the last", x.item(0, 2, 4, 12L), 1);
        dueElements("the others stay", x, 0, 2, 0, 11, 2, 3, 4, 12);
        b.promised(31, "INDEX if it has no such element.");
        for (int n : new int[] {0, 1, 5, 32}) {
            Bench y = new Bench();
            y.sheet(0, 0, n);
            for (int i : new int[] {0, n - 1, n, n + 1, -1, MIN, MAX}) {
                b.due("element " + i + " of " + n, y.item(0, 0, i, 1L), i >= 0 && i < n ? 1 : -13);
            }
        }
    }

    private void narrowing() {
        b.promised(31, "The value is narrowed to the element type as by a Java cast.");
        int[] bits = {8, 16, 32, 64};
        for (int lane = 0; lane < 4; lane++) {
            long highest = bits[lane] == 64 ? Long.MAX_VALUE : (1L << bits[lane] - 1) - 1;
            long wrap = bits[lane] == 64 ? 0 : 1L << bits[lane];
            long[] values = {0, 23, 24, -1, highest, highest + 1, -highest - 1, wrap, wrap + 23, wrap + 24, wrap - 1,
                -wrap, 7 - wrap, -wrap - 1, 5 * wrap + 9};
            for (long value : values) {
                long narrow = lane == 0 ? (byte) value : lane == 1 ? (short) value : lane == 2 ? (int) value : value;
                Bench x = new Bench();
                x.sheet(0, lane, 1);
                b.due("item of " + value, x.item(0, lane, 0, value), 1);
                boolean isPoint = narrow >= 0 && narrow < 24;
                dueElements(value + " in lane " + lane, x, 0, lane, 0, isPoint ? (int) narrow : NO_POINT);
            }
            Bench x = new Bench();
            x.sheet(0, lane, 2);
            x.item(0, lane, 0, Long.MIN_VALUE);
            x.item(0, lane, 1, Long.MAX_VALUE);
            dueElements("the lowest and the highest", x, 0, lane, 0, lane == 3 ? NO_POINT : 0, NO_POINT);
        }
    }

    private void itemErrors() {
        b.promised(31, "`sheet`: the sheet, 0 to 3", "`lane`: its lane, 0 to 3", "BAD if sheet or lane is out of "
            + "range");
        b.dueForEach("sheet", Boundaries.outside(0, 3), -1, (x, v) -> x.item(v, 0, 0, 0L));
        b.dueForEach("lane", Boundaries.outside(0, 3), -1, (x, v) -> x.item(0, v, 0, 0L));
        for (int k = 0; k < 4; k++) {
            Bench x = new Bench();
            x.sheet(k, 3 - k, 1);
            b.due("sheet " + k, x.item(k, 3 - k, 0, 0L), 1);
        }
        b.promised(31, "NULL");
        b.due("no sheet", new Bench().item(0, 0, 0, 0L), -11);
        b.due("no sheet, no index", new Bench().item(3, 3, -1, 0L), -11);
        b.promised(31, "CAST");
        for (int lane = 0; lane < 4; lane++) {
            Bench x = new Bench();
            x.sheet(0, lane, 1);
            for (int told = 0; told < 4; told++) {
                b.due("lane " + lane + ", told " + told, x.item(0, told, 0, 0L), told == lane ? 1 : -12);
            }
        }
    }

    private void copy() {
        b.promised(32, "Copies n elements from one sheet to another one, or within one sheet, as if they were first "
            + "copied to "
            + "a temporary array.", "Returns n");
        for (int lane = 0; lane < 4; lane++) {
            Bench x = counting(0, lane, 5);
            x.sheet(1, lane, 4);
            b.due("none", x.copy(0, 0, 1, 0, 0), 0);
            dueElements("none", x, 1, lane, 0, 0, 0, 0, 0);
            b.due("one, the last to the last", x.copy(0, 4, 1, 3, 1), 1);
            dueElements("one", x, 1, lane, 0, 0, 0, 0, 5);
            b.due("all that there is place for", x.copy(0, 1, 1, 0, 4), 4);
            dueElements("four", x, 1, lane, 0, 2, 3, 4, 5);
            dueElements("the source stays", x, 0, lane, 0, 1, 2, 3, 4, 5);
            b.due("back", x.copy(1, 2, 0, 0, 2), 2);
            dueElements("two", x, 0, lane, 0, 4, 5, 3, 4, 5);
        }
        Bench full = counting(0, 3, 32);
        full.sheet(1, 3, 32);
        b.due("a full sheet", full.copy(0, 0, 1, 0, 32), 32);
        dueElements("a full sheet", full, 1, 3, 20, 21, 22, 23, 0, 1, 2, 3, 4, 5, 6, 7, 8);
        Bench wide = new Bench();
        wide.sheet(0, 3, 1);
        wide.sheet(1, 3, 1);
        wide.item(0, 3, 0, 1L << 32);
        wide.copy(0, 0, 1, 0, 1);
        dueElements("nothing is narrowed", wide, 1, 3, 0, NO_POINT);
    }

    private void copyWithinOne() {
        b.promised(32, "Copies n elements from one sheet to another one, or within one sheet, as if they were first "
            + "copied to "
            + "a temporary array.");
        Bench up = counting(0, 0, 6);
        b.due("up by one", up.copy(0, 0, 0, 1, 5), 5);
        dueElements("up by one", up, 0, 0, 0, 1, 1, 2, 3, 4, 5);
        Bench down = counting(0, 0, 6);
        b.due("down by one", down.copy(0, 1, 0, 0, 5), 5);
        dueElements("down by one", down, 0, 0, 0, 2, 3, 4, 5, 6, 6);
        Bench still = counting(0, 0, 6);
        b.due("onto itself", still.copy(0, 0, 0, 0, 6), 6);
        dueElements("onto itself", still, 0, 0, 0, 1, 2, 3, 4, 5, 6);
        Bench far = counting(0, 0, 6);
        b.due("apart", far.copy(0, 4, 0, 0, 2), 2);
        dueElements("apart", far, 0, 0, 0, 5, 6, 3, 4, 5, 6);
        Bench two = counting(0, 0, 6);
        b.due("up by two", two.copy(0, 1, 0, 3, 3), 3);
        dueElements("up by two", two, 0, 0, 0, 1, 2, 3, 2, 3, 4);
    }

    private void copyErrors() {
        b.promised(32, "`from`: the source sheet, 0 to 3", "`to`: the target sheet, 0 to 3",
            "BAD if from or to is out of range");
        b.dueForEach("from", Boundaries.outside(0, 3), -1, (x, v) -> x.copy(v, 0, 0, 0, 0));
        b.dueForEach("to", Boundaries.outside(0, 3), -1, (x, v) -> x.copy(0, 0, v, 0, 0));
        for (int from = 0; from < 4; from++) {
            for (int to = 0; to < 4; to++) {
                Bench x = counting(from, 1, 3);
                if (to != from) {
                    x.sheet(to, 1, 3);
                }
                b.due("from " + from + " to " + to, x.copy(from, 0, to, 1, 2), 2);
            }
        }
        b.promised(32, "NULL if one of the sheets does not exist");
        Bench x = counting(0, 0, 3);
        b.due("no source", x.copy(1, 0, 0, 0, 1), -11);
        b.due("no target", x.copy(0, 0, 1, 0, 1), -11);
        b.due("neither", x.copy(2, 0, 1, 0, 1), -11);
        b.due("one that is none", x.copy(1, 0, 1, 0, 0), -11);
        b.promised(32, "CAST if their lanes differ");
        for (int lane = 0; lane < 4; lane++) {
            for (int other = 0; other < 4; other++) {
                Bench y = counting(0, lane, 3);
                y.sheet(1, other, 3);
                b.due("lane " + lane + " to " + other, y.copy(0, 0, 1, 0, 3), lane == other ? 3 : -12);
                b.due("lane " + lane + " to " + other + ", none", y.copy(0, 0, 1, 0, 0), lane == other ? 0 : -12);
            }
        }
    }

    private void copyIndices() {
        b.promised(32, "INDEX if i, j or n is negative or the n elements are not all within both sheets.");
        int[][] wrong = {{-1, 0, 1}, {0, -1, 1}, {0, 0, -1}, {-1, 0, 0}, {0, -1, 0}, {MIN, 0, 0}, {0, MIN, 0}, {0, 0, MIN},
            {0, 0, 4}, {0, 1, 3}, {2, 0, 4}, {3, 0, 3}, {5, 0, 1}, {0, 3, 1}, {6, 0, 0}, {0, 4, 0}, {MAX, 0, 0}, {0, MAX, 0},
            {0, 0, MAX}, {1, 0, MAX}, {0, 1, MAX}, {MAX, MAX, MAX}, {MAX, 0, 1}, {0, MAX, 1}, {5, 3, MAX}, {-1, -1, -1},
            {MIN, 0, MAX}, {1, 1, MIN}, {3, 1, -1}, {-1, 0, 2}};
        for (int[] row : wrong) {
            Bench x = counting(0, 1, 5);
            x.sheet(1, 1, 3);
            String call = "copy(0, " + row[0] + ", 1, " + row[1] + ", " + row[2] + ")";
            b.due(call, x.copy(0, row[0], 1, row[1], row[2]), -13);
            dueElements(call, x, 1, 1, 0, 0, 0, 0);
        }
        int[][] right = {{0, 0, 3}, {2, 0, 3}, {4, 2, 1}, {5, 3, 0}, {0, 3, 0}, {5, 0, 0}};
        for (int[] row : right) {
            Bench x = counting(0, 1, 5);
            x.sheet(1, 1, 3);
            String call = "copy(0, " + row[0] + ", 1, " + row[1] + ", " + row[2] + ")";
            b.due(call, x.copy(0, row[0], 1, row[1], row[2]), row[2]);
        }
        Bench empty = new Bench();
        empty.sheet(0, 0, 0);
        b.due("nothing of an empty sheet", empty.copy(0, 0, 0, 0, 0), 0);
        b.due("one of an empty sheet", empty.copy(0, 0, 0, 0, 1), -13);
    }
}
