/** The permutations, and promises 8 to 11: first and last points, no cycles and long ones, empty texts. */
final class MoveBoundaries {
    private static final int ALL = Boundaries.ALL;
    private static final String LONGEST =
        "(0,23)(1,22)(2,21)(3,20)(4,19)(5,18)(6,17)(7,16)(8,15)(9,14)(10,13)(11,12)";
    private final Boundaries b;

    MoveBoundaries(Boundaries b) {
        this.b = b;
    }

    void test() {
        numbers();
        atFirst();
        over();
        preserving();
        cycles();
        texts();
        move();
        told();
        toldWhereDGoes();
        letter();
        sent();
    }

    /** A text with one parenthesis behind another, as a product. */
    private static String product(String text) {
        return text.replace(")(", ")*(");
    }

    private void dueText(Bench x, int m, String text) {
        b.due("the length of " + text, x.told(m, 7), text.length());
        for (int k = 0; k < text.length(); k++) {
            b.due("character " + k + " of " + text, x.letter(m, k), text.charAt(k));
        }
        b.due("behind " + text, x.letter(m, text.length()), -4);
    }

    private void numbers() {
        b.described("There are the permutations 0 to 4 of the points; 0 to 3 can be set, and 4 is the one that "
            + "retrace() "
            + "found last (the identity at first).");
        for (int m = 0; m < 4; m++) {
            Bench x = new Bench();
            x.reads(m, "(0,1)");
            b.due("permutation " + m + " is set", x.move(m, 0), 1);
            b.due("permutation 4 is not", x.told(4, 1), 24);
        }
        Bench x = new Bench();
        for (int p = 0; p < 24; p++) {
            b.due("4 at first", x.move(4, p), p);
        }
        b.due("4 cannot be set", x.types("same").read(4), -1);
        b.dueForEach("no such permutation", Boundaries.outside(0, 4), -1, (y, m) -> y.move(m, 0));
        x.sheet(0, 0, 4);
        x.item(0, 0, 1, 1L);
        b.due("found", x.retrace(1, 0, 0, 0, 1), 1);
        b.due("4 is the one that was found", x.move(4, 22), 0);
        x.item(0, 0, 3, 5L);
        b.due("found none", x.retrace(1, 0, 0, 0, 2), 0);
        b.due("4 is the one that was found last", x.move(4, 22), 0);
        x.drift(40);
        b.due("a drift does not set it", x.move(4, 22), 0);
    }

    private void atFirst() {
        b.described("At first they are step, twice, over and wild:",
            "step: p to (p + 1) modulo 23; twice: p to (2 * p) modulo 23; wild: p to (18 * p * p * p) modulo 23 if p is "
            + "one of 1, 2, 3, 4, 6, 8, 9, 12, 13, 16 and 18, otherwise to (9 * p * p * p) modulo 23; all this for p from "
            + "0 to 22; point 23 stays.");
        Bench x = new Bench();
        int[][] due = {
            {1, 2, 3, 4, 5, 6, 7, 8, 9, 10, 11, 12, 13, 14, 15, 16, 17, 18, 19, 20, 21, 22, 0, 23},
            {0, 2, 4, 6, 8, 10, 12, 14, 16, 18, 20, 22, 1, 3, 5, 7, 9, 11, 13, 15, 17, 19, 21, 23}};
        for (int p = 0; p < 24; p++) {
            b.due("step of " + p, x.move(0, p), due[0][p]);
            b.due("twice of " + p, x.move(1, p), due[1][p]);
            boolean isNamed = java.util.Set.of(1, 2, 3, 4, 6, 8, 9, 12, 13, 16, 18).contains(p);
            b.due("wild of " + p, x.move(3, p), p == 23 ? 23 : (isNamed ? 18 : 9) * p * p * p % 23);
        }
        b.due("step wraps 22", x.move(0, 22), 0);
        b.due("twice does not wrap 11", x.move(1, 11), 22);
        b.due("twice wraps 12", x.move(1, 12), 1);
        b.due("wild of 0", x.move(3, 0), 0);
        b.due("wild of 22", x.move(3, 22), 14);
    }

    private void over() {
        b.described("over: p from 1 to 22 goes to the q with p * q modulo 23 equal to 22; 0 goes to 23, and 23 to 0.");
        Bench x = new Bench();
        b.due("over of 0", x.move(2, 0), 23);
        b.due("over of 23", x.move(2, 23), 0);
        b.due("over of 1", x.move(2, 1), 22);
        b.due("over of 22", x.move(2, 22), 1);
        for (int p = 1; p < 23; p++) {
            b.due("over of " + p, p * x.move(2, p) % 23, 22);
        }
    }

    private void preserving() {
        b.described("A permutation preserves the code if each word goes to a word.");
        for (int m = 0; m < 5; m++) {
            Bench x = new Bench();
            int kept = 0;
            for (int k = 0; k < 12; k++) {
                kept += x.word(x.sent(m, x.block(0, 1 << k)), 2) == 0 ? 1 : 0;
            }
            b.due("basis words that go to words by " + m, kept, 12);
            b.due("permutation " + m, x.told(m, 0), 1);
        }
        // A swap keeps each word that has both points or none, but not the others.
        for (int q = 1; q < 24; q++) {
            Bench x = new Bench();
            x.reads(0, "(0," + q + ")");
            b.due("the swap of 0 and " + q, x.told(0, 0), 0);
            b.due("all at once", x.count(2), 30);
        }
        Bench x = new Bench();
        x.reads(0, "step*(0,1)*step^-1*(22,0)");
        b.due("what is undone preserves it", x.told(0, 0), 1);
    }

    private void cycles() {
        b.described("Its cycles include those of one point.");
        b.due("the identity", new Bench().told(4, 2), 24);
        String[] texts = {"(0,1)", "(22,23)", "(0,1,2)", "step", "over",
            "(0,1,2,3,4,5,6,7,8,9,10,11,12,13,14,15,16,17,18,19,20,21,22,23)"};
        int[] numbers = {23, 23, 22, 2, 12, 1};
        int[] orders = {2, 2, 3, 23, 2, 24};
        for (int k = 0; k < texts.length; k++) {
            Bench x = new Bench();
            x.reads(0, texts[k]);
            b.due("the cycles of " + texts[k], x.told(0, 2), numbers[k]);
        }
        b.described("Its order is the smallest number of times, at least 1, after which all points are back.");
        b.due("the identity", new Bench().told(4, 3), 1);
        for (int k = 0; k < texts.length; k++) {
            Bench x = new Bench();
            x.reads(0, texts[k]);
            b.due("the order of " + texts[k], x.told(0, 3), orders[k]);
        }
        String[] products = {"(0,1)*(2,3,4)", "(0,1)*(2,3,4,5)", "(0,1,2,3)*(4,5,6,7,8,9)",
            "(0,1,2)*(3,4,5,6,7)*(8,9,10,11,12,13,14)*(15,16,17,18,19,20,21,22)"};
        int[] multiples = {6, 4, 12, 840};
        for (int k = 0; k < products.length; k++) {
            Bench x = new Bench();
            x.reads(0, products[k]);
            b.due("the order of " + products[k], x.told(0, 3), multiples[k]);
        }
    }

    private void texts() {
        b.described("Its text consists of its cycles of two or more points, ordered by their lowest points: each one "
            + "is a "
            + "left parenthesis, the points from the lowest one on in the order in which they are sent, with commas "
            + "between, and a right parenthesis.");
        String[] tapes = {"(23,22)*(1,0)", "(9,10)", "(5,3,23)*(4)*(2,0)", product(LONGEST),
            "(23,22,21,20,19,18,17,16,15,14,13,12,11,10,9,8,7,6,5,4,3,2,1,0)"};
        String[] due = {"(0,1)(22,23)", "(9,10)", "(0,2)(3,23,5)", LONGEST,
            "(0,23,22,21,20,19,18,17,16,15,14,13,12,11,10,9,8,7,6,5,4,3,2,1)"};
        for (int k = 0; k < tapes.length; k++) {
            Bench x = new Bench();
            x.reads(3, tapes[k]);
            dueText(x, 3, due[k]);
        }
        b.described("The text of the identity is empty.");
        Bench x = new Bench();
        dueText(x, 4, "");
        x.reads(0, "over^2");
        dueText(x, 0, "");
    }

    private void move() {
        b.promised(8, "`m`: the permutation, 0 to 4", "`p`: the point, 0 to 23", "BAD if m or p is out of range.");
        b.due("the first of both", new Bench().move(0, 0), 1);
        b.due("the last of both", new Bench().move(4, 23), 23);
        b.dueForEach("move with m", Boundaries.outside(0, 4), -1, (x, m) -> x.move(m, 0));
        b.dueForEach("move with p", Boundaries.outside(0, 23), -1, (x, p) -> x.move(0, p));
        b.dueForEach("move with both", Boundaries.outside(0, 4), -1, (x, m) -> x.move(m, m));
    }

    private void told() {
        b.promised(9, "`what`: 0 whether it preserves the code (1 or 0); 1 the number of points that stay; 2 the "
            + "number of "
            + "its cycles; 3 its order; 4 (24 - the number of its cycles) modulo 2; 5 the number of octads that go to "
            + "themselves; 6 where D goes: 1 to itself, 2 to its complement, 0 otherwise; 7 the number of characters of "
            + "its text");
        String[] texts = {"same", "(0,1)", "(0,1,2)", "step", "over", product(LONGEST), "(5,7)", "(0,1)*(5,7)",
            "(0,1,2,3,4,5,6,7,8,9,10,11,12,13,14,15,16,17,18,19,20,21,22,23)"};
        // With two points swapped, those octads stay that have both (77) or none (759 - 253 - 253 + 77).
        int[][] due = {{1, 24, 24, 1, 0, 759, 1, 0}, {0, 22, 23, 2, 1, 407, 1, 5}, {0, 21, 22, 3, 0, 231, 1, 7},
            {1, 1, 2, 23, 0, 0, 0, 60}, {1, 0, 12, 2, 0, 15, 2, 74}, {0, 0, 12, 2, 0, -9, 2, 74},
            {0, 22, 23, 2, 1, 407, 1, 5}, {0, 20, 22, 2, 0, 215, 1, 10}, {0, 0, 1, 24, 1, 0, 0, 63}};
        for (int k = 0; k < texts.length; k++) {
            Bench x = new Bench();
            x.reads(1, texts[k]);
            for (int what = 0; what < 8; what++) {
                int want = what == 5 && due[k][5] == -9 ? fixedOctads(texts[k]) : due[k][what];
                b.due("told of " + texts[k] + ", " + what, x.told(1, what), want);
            }
        }
        b.promised(9, "`m`: the permutation, 0 to 4", "BAD if m or what is out of range.");
        for (int what = 0; what < 8; what++) {
            int of = what;
            b.dueForEach("told with m, " + what, Boundaries.outside(0, 4), -1, (x, m) -> x.told(m, of));
        }
        b.dueForEach("told with what", Boundaries.outside(0, 7), -1, (x, w) -> x.told(0, w));
        b.dueForEach("told with both", Boundaries.outside(0, 7), -1, (x, w) -> x.told(w, w));
        b.due("the last of both", new Bench().told(4, 7), 0);
    }

    private int fixedOctads(String text) {
        int fixed = 0;
        Bench x = new Bench();
        for (int k = 0; k < 759; k++) {
            if (k % 150 == 0) {
                x = new Bench();
                x.reads(0, text);
            }
            int octad = x.block(1, k);
            fixed += x.sent(0, octad) == octad ? 1 : 0;
        }
        return fixed;
    }

    private void toldWhereDGoes() {
        b.promised(9, "`what`: 0 whether it preserves the code (1 or 0); 1 the number of points that stay; 2 the "
            + "number of "
            + "its cycles; 3 its order; 4 (24 - the number of its cycles) modulo 2; 5 the number of octads that go to "
            + "themselves; 6 where D goes: 1 to itself, 2 to its complement, 0 otherwise; 7 the number of characters of "
            + "its text");
        // D is 5, 7, 10, 11, 14, 15, 17 and 19 to 23, at first.
        String swaps = "(0,5)*(1,7)*(2,10)*(3,11)*(4,14)*(6,15)*(8,17)*(9,19)*(12,20)*(13,21)*(16,22)*(18,23)";
        Bench x = new Bench();
        x.reads(0, swaps);
        b.due("to its complement", x.told(0, 6), 2);
        x.reads(1, swaps.replace("*(18,23)", ""));
        b.due("to all but one of its complement", x.told(1, 6), 0);
        x.reads(2, "(18,23)");
        b.due("to all but one of itself", x.told(2, 6), 0);
        x.choose(ALL ^ Boundaries.D);
        b.due("the complement to D", x.told(0, 6), 2);
        b.due("the complement stays", x.told(4, 6), 1);
        x.choose(x.block(2, 0));
        b.due("another D", x.told(0, 6), x.sent(0, 28637) == 28637 ? 1 : 0);
    }

    private void letter() {
        b.promised(10, "`m`: the permutation, 0 to 4", "`k`: the index of the character, from 0");
        b.due("the first one", new Bench().letter(0, 0), '(');
        b.due("the last permutation", new Bench().letter(4, 0), -4);
        b.promised(10, "Returns its code, or NONE if there is no such index");
        Bench x = new Bench();
        b.due("the last index", x.letter(0, 59), ')');
        b.due("behind it", x.letter(0, 60), -4);
        b.due("far behind it", x.letter(0, Boundaries.MAX), -4);
        b.due("the last index of a longest text", x.letter(2, 73), ')');
        b.due("behind a longest text", x.letter(2, 74), -4);
        b.due("an empty text", x.letter(4, 0), -4);
        x.reads(0, "same");
        b.due("an empty text behind a long one", x.letter(0, 0), -4);
        b.promised(10, "BAD if m is out of range or k is negative.");
        b.dueForEach("letter with m", Boundaries.outside(0, 4), -1, (y, m) -> y.letter(m, 0));
        b.dueForEach("letter with m, no such index", Boundaries.outside(0, 4), -1, (y, m) -> y.letter(m, 99));
        b.dueForEach("letter with k", new int[] {-1, Boundaries.MIN}, -1, (y, k) -> y.letter(0, k));
        b.dueForEach("letter with k, an empty text", new int[] {-1, Boundaries.MIN}, -1, (y, k) -> y.letter(4, k));
    }

    private void sent() {
        b.promised(11, "`m`: the permutation, 0 to 4", "BAD if m or set is out of range.");
        for (int m = 0; m < 5; m++) {
            Bench x = new Bench();
            b.due("no points by " + m, x.sent(m, 0), 0);
            b.due("all points by " + m, x.sent(m, ALL), ALL);
            b.due("the first point by " + m, x.sent(m, 1), 1L << x.move(m, 0));
            b.due("the last point by " + m, x.sent(m, 1 << 23), 1L << x.move(m, 23));
        }
        b.dueForEach("sent with m", Boundaries.outside(0, 4), -1, (x, m) -> x.sent(m, 0));
        b.dueForEach("sent with set", Boundaries.outside(0, ALL), -1, (x, s) -> x.sent(4, s));
    }
}
