/** The texts, and promises 12 and 13: empty and full tapes, and where each text has its error. */
final class TextBoundaries {
    private static final String ALL_POINTS = "(0,1,2,3,4,5,6,7,8,9,10,11,12,13,14,15,16,17,18,19,20,21,22,23";
    private final Boundaries b;

    TextBoundaries(Boundaries b) {
        this.b = b;
    }

    void test() {
        tape();
        powers();
        names();
        cycles();
        points();
        brackets();
        blanks();
        errors();
        type();
        read();
    }

    private static String blanks(int n) {
        return " ".repeat(n);
    }

    /** The text is read, and the permutation that it makes has that text. */
    private void dueText(String tape, String text) {
        Bench x = new Bench();
        x.reads(0, "same");
        int got = x.reads(0, tape);
        b.due("read of '" + tape + "'", got, 24 - x.told(0, 1));
        StringBuilder found = new StringBuilder();
        for (int k = 0; k < x.told(0, 7); k++) {
            found.append((char) x.letter(0, k));
        }
        b.holds("'" + tape + "' is " + text + ", not " + found, found.toString().equals(text));
    }

    private void dueError(String tape, int position) {
        Bench x = new Bench();
        b.due("read of '" + tape + "'", x.reads(1, tape), -20 - position);
        b.due("twice after '" + tape + "'", x.told(1, 3), 11);
        b.due("changes after '" + tape + "'", x.count(1), 0);
        b.due("the tape after '" + tape + "'", x.type('a'), 1);
    }

    private void tape() {
        b.described("A permutation can be read from a tape of at most 100 characters, which is empty at first, with "
            + "this "
            + "grammar: product = factor { \"*\" factor } factor = ( name | cycle | \"[\" product \"]\" ) "
            + "[ \"^\" [ \"-\" ] number ] cycle = \"(\" point { \",\" point } \")\" The factors of a product are applied "
            + "from the left to the right.");
        dueError("", 0);
        dueText("(0,1)*(1,2)", "(0,2,1)");
        dueText("(1,2)*(0,1)", "(0,1,2)");
        dueText("(0,1)*(1,2)*(2,3)", "(0,3,2,1)");
        dueText("(0,1)*[(1,2)*(2,3)]", "(0,3,2,1)");
        dueText("[(0,1)*(1,2)]*(2,3)", "(0,3,2,1)");
        dueText(blanks(96) + "over", "(0,23)(1,22)(2,11)(3,15)(4,17)(5,9)(6,19)(7,13)(8,20)(10,16)(12,21)(14,18)");
        // Fifty factors are the most that the tape has place for: an even number of swaps.
        dueText("e" + "*e".repeat(49), "");
        Bench x = new Bench();
        String factors = "c" + "*c".repeat(48) + "*a";
        b.due("49 times over, and step", x.reads(0, factors), 24);
        b.due("0 to 23 to 23", x.move(0, 0), 23);
        b.due("1 to 22 to 0", x.move(0, 1), 0);
        dueError(factors + "a", 98);
        dueError(factors + "*", 100);
    }

    private void powers() {
        b.described("A factor with ^ is applied that many times, with - its inverse.");
        dueText("(0,1,2,3)^0", "");
        dueText("(0,1,2,3)^-0", "");
        dueText("(0,1,2,3)^1", "(0,1,2,3)");
        dueText("(0,1,2,3)^-1", "(0,3,2,1)");
        dueText("(0,1,2,3)^2", "(0,2)(1,3)");
        dueText("(0,1,2,3)^4", "");
        dueText("(0,1,2,3)^99", "(0,3,2,1)");
        dueText("(0,1,2,3)^-99", "(0,1,2,3)");
        dueText("step^23", "");
        dueText("step^-99*step^7", "");
        dueText("[(0,1)*(1,2)]^2", "(0,1,2)");
        dueText("[(0,1)*(1,2)]^-1", "(0,1,2)");
        dueText("(0,1)*(1,2)^2", "(0,1)");
        dueText("same^99", "");
        dueText("[[(0,1,2,3,4)^2]^2]^-3", "(0,3,1,4,2)");
    }

    private void names() {
        b.described("The names are step, twice, over, wild, same (the identity) and a to e (the permutations 0 to 4 "
            + "as they "
            + "are now).");
        String[] names = {"step", "twice", "over", "wild", "same"};
        for (int m = 0; m < 5; m++) {
            Bench x = new Bench();
            int[] row = x.row(m);
            x.reads(0, "(0,1)");
            x.reads(1, "(0,1,2)");
            b.holds(names[m] + " is read", x.reads(2, names[m]) >= 0);
            b.holds(names[m] + " is as at first", java.util.Arrays.equals(x.row(2), row));
        }
        for (int m = 0; m < 5; m++) {
            Bench x = new Bench();
            x.drift(7);
            int[] row = x.row(m);
            b.holds("letter " + m, x.reads(3, Character.toString('a' + m)) >= 0);
            b.holds("letter " + m + " is as it is now", java.util.Arrays.equals(x.row(3), row));
        }
        dueError("f", 0);
        dueError("`", 0);
        dueError("aa", 0);
        dueError("ste", 0);
        dueError("steps", 0);
        dueError("Step", 0);
        dueError("sameover", 0);
        Bench x = new Bench();
        x.reads(0, "(0,1,2)");
        b.due("a is what it was before", x.reads(0, "a*a"), 3);
        b.due("0 to 2", x.move(0, 0), 2);
    }

    private void cycles() {
        b.described("A cycle sends each point to the next one, and the last one to the first one.");
        dueText("(0)", "");
        dueText("(23)", "");
        dueText("(23,0)", "(0,23)");
        dueText("(5,3,23)", "(3,23,5)");
        dueText(ALL_POINTS + ")", ALL_POINTS + ")");
        Bench x = new Bench();
        b.due("all points", x.reads(0, ALL_POINTS + ")"), 2);
        b.due("23 to 0", x.move(0, 23), 0);
        b.due("22 to 23", x.move(0, 22), 23);
        dueError("()", 1);
        dueError("(0,)", 3);
        dueError("(,0)", 1);
    }

    private void points() {
        b.described("A number has one or two digits; a point is a number from 0 to 23, and is only once in a cycle.");
        dueText("(0,23)", "(0,23)");
        dueText("(00,09)", "(0,9)");
        dueText("(0,1)^01", "(0,1)");
        dueError("(24,0)", 1);
        dueError("(0,24)", 3);
        dueError("(99)", 1);
        dueError("(000,1)", 1);
        dueError("(0,001)", 3);
        dueError("(230)", 1);
        dueError("(4294967296)", 1);
        dueError("(99999999999999999999)", 1);
        dueError("a^100", 2);
        dueError("a^000", 2);
        dueError("a^-100", 3);
        dueError("a^4294967297", 2);
        dueError("(0,0)", 3);
        dueError("(0,1,0)", 5);
        dueError("(23,0,23)", 6);
        dueError("(7,07)", 3);
        dueError(ALL_POINTS + ",0)", ALL_POINTS.length() + 1);
        dueText("(0,1)*(0,1)", "");
        dueText("(0,1)*(1,0,2)", "(1,2)");
    }

    private void brackets() {
        b.described("At most six brackets [ can be open at once.");
        dueText("[[[[[[(0,1)]]]]]]", "(0,1)");
        dueText("[[[[[[(0,1)]^2]^2]]]]", "");
        dueText("[[[[[(0,1)*[(1,2)]*[(2,3)]]]]]]*[[[[[[same]]]]]]", "(0,3,2,1)");
        dueText("[(0,1)]*[(1,2)]*[(2,3)]*[(3,4)]*[(4,5)]*[(5,6)]*[(6,7)]*[(7,8)]", "(0,8,7,6,5,4,3,2,1)");
        b.described("A seventh open bracket is not allowed.");
        dueError("[[[[[[[(0,1)]]]]]]]", 6);
        dueError("[[[[[[[", 6);
        dueError("[ [ [ [ [ [ [", 12);
        dueError("[[[[[[a*[a]]]]]]]", 8);
        dueError("[[[[[[a]]]]]]*[[[[[[[a]]]]]]]", 20);
    }

    private void blanks() {
        b.described("Blanks (code 32) have no meaning, but they separate letters from letters and digits from digits.");
        dueText("  ( 0 , 10 ) ^ - 1 * [ same ] ", "(0,10)");
        dueText(" [ ( 0 , 1 , 2 ) ] ^ 2 ", "(0,2,1)");
        dueError("sa me", 0);
        dueError("a a", 2);
        dueError("step step", 5);
        dueError("(1 0)", 3);
        dueError("(0,1 0)", 5);
        dueError("a^1 0", 4);
        dueError("a ^ 10 0", 7);
        dueError(" ", 1);
        dueError(blanks(100), 100);
    }

    private void errors() {
        b.described("The error position is the index of the first character that is not allowed at its place, where "
            + "a run "
            + "of letters (a to z) or a run of digits counts as a whole, and any other character alone: if a run is not a "
            + "name, or not such a number or point, the position is that of its first character.");
        String[] tapes = {"*", "^2", "-a", ")", "]", "2", ",", "a**b", "a*^2", "a b", "a(0,1)", "a[b]", "a2", "a,b", "a)",
            "a]", "[a)", "[a]]", "[]", "[a*]", "[*a]", "a^a", "a^(0)", "a^[2]", "a^*", "a^--1", "a^+1", "a^-a", "a^2^2",
            "a^2b", "a^2(0)", "a^-2-", "(a)", "(-1)", "(0;1)", "(0 1)", "(0*1)", "((0))", "(0)(1)", "(0,(1))", "(0,a)",
            "(0]", "!", "a!", "a*!", "~", "A", "a*B", "{a}", "a*stepp*f", "a*(0,24)*f", "zzz", "a*zzz*(99)", "(123456)",
            "a^123456", "a*(1,2,30)", "a1b", "(1a)", "1a", "a^1a", "a*step2", "[a^2*(1,2]"};
        int[] positions = {0, 0, 0, 0, 0, 0, 0, 2, 2, 2, 1, 1, 1, 1, 1,
            1, 2, 3, 1, 3, 1, 2, 2, 2, 2, 3, 2, 3, 3,
            3, 3, 4, 1, 1, 2, 3, 2, 1, 3, 3, 3,
            2, 0, 1, 2, 0, 0, 2, 0, 2, 5, 0, 2, 1,
            2, 7, 1, 2, 0, 3, 6, 9};
        b.due("as many positions as tapes", positions.length, tapes.length);
        for (int k = 0; k < tapes.length; k++) {
            dueError(tapes[k], positions[k]);
            dueError("  " + tapes[k], positions[k] + 2);
        }
        dueError(blanks(99) + "z", 99);
        dueError(blanks(98) + "zz", 98);
        dueError(blanks(98) + "a)", 99);
        b.described("If the tape ends too early, the position is the number of its characters.");
        String[] early = {"", "a*", "a^", "a^-", "(", "(0", "(0,", "(23,", "[", "[a", "[a*", "[a^2", "[[[[[[", "[a]*",
            "(0,1)*", ALL_POINTS, ALL_POINTS + ",", blanks(99) + "(", blanks(98) + "a*", "[(0)"};
        for (String tape : early) {
            dueError(tape, tape.length());
            if (tape.length() < 98) {
                dueError(tape + "  ", tape.length() + 2);
            }
        }
    }

    private void type() {
        b.promised(12, "`letter`: its code, 32 to 126", "BAD if letter is out of range");
        Bench x = new Bench();
        b.due("the lowest", x.type(32), 1);
        b.due("the highest", x.type(126), 2);
        b.dueForEach("type", Boundaries.outside(32, 126), -1, (y, letter) -> y.type(letter));
        b.dueForEach("type", new int[] {0, 10, 255, 256 + 97, 65536 + 97}, -1, (y, letter) -> y.type(letter));
        b.due("nothing was appended", x.type('a'), 3);
        b.promised(12, "Returns how many characters the tape has then", "FULL if it has 100 characters.");
        Bench full = new Bench();
        for (int k = 1; k <= 100; k++) {
            b.due("type for the " + k + "th time", full.type(k <= 96 ? ' ' : "same".charAt(k - 97)), k);
        }
        b.due("a full tape", full.type('a'), -3);
        b.due("a full tape, no meaning", full.type(' '), -3);
        b.due("a full tape, but out of range", full.type(127), -1);
        b.due("nothing was appended", full.read(0), 23);
        b.due("empty again", full.type('a'), 1);
        b.promised(12, "Appends a character to the tape.");
        Bench y = new Bench();
        y.type('b');
        y.type(' ');
        y.type('z');
        b.due("in their order", y.read(0), -22);
    }

    private void read() {
        b.promised(13, "The tape is empty then, also if it has an error.");
        Bench x = new Bench();
        b.due("no error", x.reads(0, "same"), 23);
        b.due("the tape is empty", x.type('!'), 1);
        b.due("an error", x.read(0), -20);
        b.due("the tape is empty", x.read(0), -20);
        b.due("a full tape with an error", x.reads(0, "same".repeat(25)), -20);
        b.due("the tape is empty", x.type('a'), 1);
        b.promised(13, "Returns how many points go elsewhere than before");
        Bench y = new Bench();
        b.due("none", y.reads(0, "step"), 0);
        b.due("all", y.reads(0, "over"), 24);
        b.due("two", y.reads(0, "a*(0,1)"), 2);
        b.due("all but one", new Bench().reads(0, "same"), 23);
        b.promised(13, "`m`: the permutation, 0 to 3", "BAD if m is out of range (then the tape stays)");
        for (int m : Boundaries.outside(0, 3)) {
            Bench z = new Bench();
            b.due("read(" + m + ")", z.reads(m, "(0,1)"), -1);
            b.due("the tape stays", z.type('*'), 6);
            b.due("with an error", z.read(m), -1);
            b.due("the tape stays", z.type('('), 7);
            b.due("which is found then", z.read(3), -27);
            b.due("an empty tape", z.read(m), -1);
        }
        b.promised(13, "Sets a permutation to the one on the tape.");
        for (int m = 0; m < 4; m++) {
            Bench z = new Bench();
            z.reads(m, "(0,1)*(1,2)");
            b.due("permutation " + m, z.move(m, 0), 2);
            for (int other = 0; other < 5; other++) {
                b.holds("the others stay", other == m || z.told(other, 3) == new Bench().told(other, 3));
            }
        }
        b.promised(13, "-20 minus the error position if the tape has an error (then only the tape changes).");
        dueError("", 0);
        dueError("a*", 2);
        dueError(blanks(100), 100);
    }
}
