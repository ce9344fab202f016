import java.math.BigInteger;
import java.util.Arrays;

/** Each promise: ordinary inputs, the edges that the document names, and wrong inputs. */
public final class PromiseTest {
    private static final int MIN = Integer.MIN_VALUE;
    private static final int MAX = Integer.MAX_VALUE;
    private static final int ALL = 16777215;
    private static final int D = 16436384;
    private static final int[] NO_SETS = {-1, ALL + 1, MIN, MAX};
    private static final Check CHECK = new Check("PromiseTest");

    public static void main(String[] args) {
        newObject();
        word();
        block();
        complete();
        sextet();
        both();
        met();
        move();
        told();
        letter();
        sent();
        type();
        readValues();
        readErrors();
        readNames();
        group();
        held();
        holds();
        choose();
        hexad();
        turn();
        pair();
        drift();
        undo();
        seed();
        count();
        image();
        retrace();
        retraceErrors();
        film();
        sheet();
        item();
        copy();
        CHECK.end();
    }

    private static void due(String call, long got, long want) {
        CHECK.due(call, got, want);
    }

    private static int typeAll(Bench x, String text) {
        int length = 0;
        for (int k = 0; k < text.length(); k++) {
            length = x.type(text.charAt(k));
        }
        return length;
    }

    private static void dueText(Bench x, int m, String text) {
        due("the length of the text of " + m, x.told(m, 7), text.length());
        for (int k = 0; k < text.length(); k++) {
            due("letter(" + m + ", " + k + ")", x.letter(m, k), text.charAt(k));
        }
        due("letter behind " + text, x.letter(m, text.length()), -4);
    }

    /** Reads into permutation 0 of a new object and tells its text. */
    private static void dueRead(String tape, String text) {
        Bench x = new Bench();
        x.type('s');
        typeAll(x, "ame");
        x.read(0);
        typeAll(x, tape);
        int got = x.read(0);
        int elsewhere = 24 - x.told(0, 1);
        due("read of '" + tape + "'", got, elsewhere);
        dueText(x, 0, text);
        due("changes", x.count(1), 2);
    }

    private static void dueError(String tape, int position) {
        Bench x = new Bench();
        typeAll(x, tape);
        due("read of '" + tape + "'", x.read(1), -20 - position);
        due("no change", x.count(1), 0);
        due("still twice", x.told(1, 3), 11);
        due("the tape is empty", x.type('a'), 1);
    }

    private static void newObject() {
        Bench x = new Bench();
        due("random number", x.seed(5), 1);
        due("tape", x.type('a'), 1);
        due("changes", x.undo(), -4);
        due("saved", x.restore(), -4);
        due("saved", x.count(3), 0);
        due("D", x.count(0), D);
        due("D", x.block(0, 1), D);
        for (int k = 0; k < 4; k++) {
            due("sheet " + k, x.drop(k), -11);
        }
        dueText(x, 0, "(0,1,2,3,4,5,6,7,8,9,10,11,12,13,14,15,16,17,18,19,20,21,22)");
        dueText(x, 1, "(1,2,4,8,16,9,18,13,3,6,12)(5,10,20,17,11,22,21,19,15,7,14)");
        dueText(x, 2, "(0,23)(1,22)(2,11)(3,15)(4,17)(5,9)(6,19)(7,13)(8,20)(10,16)(12,21)(14,18)");
        dueText(x, 3, "(1,18,4,2,6)(5,21,20,10,7)(8,16,13,9,12)(11,19,22,14,17)");
        dueText(x, 4, "");
        Bench other = new Bench();
        other.drift(9);
        due("objects are apart", x.count(1), 0);
        due("objects are apart", x.move(0, 22), 0);
    }

    private static void word() {
        Bench x = new Bench();
        for (int what = 0; what < 7; what++) {
            for (int set : NO_SETS) {
                due("word(" + set + ", " + what + ")", x.word(set, what), -1);
            }
        }
        for (int what : new int[] {-1, 7, MIN, MAX}) {
            due("word(0, " + what + ")", x.word(0, what), -1);
        }
        for (int n = 0; n < 4096; n += 13) {
            x = x.renewed();
            due("the number of word " + n, x.word(x.block(0, n), 1), n);
            due("its distance", x.word(x.block(0, n), 2), 0);
            due("itself", x.word(x.block(0, n), 4), x.block(0, n));
        }
        due("word(1, 1)", x.word(1, 1), -4);
        due("word(255, 0)", x.word(255, 0), 8);
        due("word(255, 2)", x.word(255, 2), 4);
        due("word(255, 3)", x.word(255, 3), 6);
        due("word(D, 5)", x.word(D, 5), 0);
        due("word(D, 6)", x.word(D, 6), 0);
        due("word(1, 6)", x.word(1, 6), 253);
        due("word(3, 6)", x.word(3, 6), 77);
        due("word(7, 6)", x.word(7, 6), 21);
        due("word(ALL ^ 255, 5)", x.word(ALL ^ 5279, 5), 30);
        nearestByTrying();
    }

    private static int[] words() {
        int[] words = new int[4096];
        Bench x = new Bench();
        for (int n = 0; n < 4096; n++) {
            x = x.renewed();
            words[n] = x.block(0, n);
        }
        return words;
    }

    private static void nearestByTrying() {
        int[] words = words();
        Bench x = new Bench();
        for (int set = 3; set <= ALL; set += 98765) {
            x = x.renewed();
            int distance = 24;
            int number = 0;
            int lowest = 0;
            for (int word : words) {
                int away = Integer.bitCount(word ^ set);
                if (away < distance) {
                    distance = away;
                    number = 0;
                    lowest = word;
                }
                number += away == distance ? 1 : 0;
                lowest = away == distance ? Math.min(lowest, word) : lowest;
            }
            due("word(" + set + ", 2)", x.word(set, 2), distance);
            due("word(" + set + ", 3)", x.word(set, 3), number);
            due("word(" + set + ", 4)", x.word(set, 4), lowest);
        }
    }

    private static void block() {
        Bench x = new Bench();
        int[] starts = {5, 7, 10, 11, 14, 15, 17, 19, 20, 21, 22};
        for (int k = 0; k < 12; k++) {
            int basis = 1 << 23;
            for (int n : starts) {
                basis |= 1 << (n - k + 23) % 23;
            }
            due("basis word " + k, x.block(0, 1 << k), basis);
        }
        due("word 11", x.block(0, 11), x.block(0, 1) ^ x.block(0, 2) ^ x.block(0, 8));
        int[] ends = {4096, 759, 2576};
        int[] weights = {0, 8, 12};
        for (int what = 1; what < 3; what++) {
            int before = -1;
            for (int k = 0; k < ends[what]; k++) {
                x = x.renewed();
                int set = x.block(what, k);
                due("ascending " + k, set > before ? 1 : 0, 1);
                due("a word", x.word(set, 2), 0);
                due("its points", x.word(set, 0), weights[what]);
                before = set;
            }
        }
        for (int what = 0; what < 3; what++) {
            due("block(" + what + ", end)", x.block(what, ends[what]), -1);
            due("block(" + what + ", -1)", x.block(what, -1), -1);
            due("block(" + what + ", MAX)", x.block(what, MAX), -1);
        }
        due("block(3, 0)", x.block(3, 0), -1);
        due("block(-1, 0)", x.block(-1, 0), -1);
    }

    private static void complete() {
        Bench x = new Bench();
        for (int set : NO_SETS) {
            due("complete(" + set + ")", x.complete(set), -1);
        }
        due("complete(0)", x.complete(0), -2);
        due("complete(ALL)", x.complete(ALL), -2);
        due("complete(63)", x.complete(63), -2);
        for (int k = 0; k < 759; k += 7) {
            x = x.renewed();
            int octad = x.block(1, k);
            int five = octad;
            for (int away = 0; away < 3; away++) {
                five &= five - 1;
            }
            due("complete(" + five + ")", x.complete(five), octad);
        }
    }

    private static void sextet() {
        Bench x = new Bench();
        for (int set : NO_SETS) {
            due("sextet(" + set + ", 0)", x.sextet(set, 0), -1);
        }
        for (int k : new int[] {-1, 6, MAX, MIN}) {
            due("sextet(15, " + k + ")", x.sextet(15, k), -1);
            due("sextet(7, " + k + ")", x.sextet(7, k), -1);
        }
        due("sextet(7, 0)", x.sextet(7, 0), -2);
        due("sextet(31, 5)", x.sextet(31, 5), -2);
        int four = 1 << 3 | 1 << 8 | 1 << 17 | 1 << 22;
        int all = 0;
        boolean isIn = false;
        for (int k = 0; k < 6; k++) {
            int tetrad = x.sextet(four, k);
            due("apart", all & tetrad, 0);
            due("lowest first", tetrad & -tetrad, ~all & -~all);
            due("an octad", tetrad == four ? 8 : x.word(four | tetrad, 0) + x.word(four | tetrad, 2), 8);
            isIn |= tetrad == four;
            all |= tetrad;
            for (int j = 0; j < 6; j++) {
                due("the same sextet", x.sextet(tetrad, j), x.sextet(four, j));
            }
        }
        due("all points", all, ALL);
        due("the set itself", isIn ? 1 : 0, 1);
    }

    private static void both() {
        Bench x = new Bench();
        for (int set : NO_SETS) {
            due("both(" + set + ", 15)", x.both(set, 15), -1);
            due("both(15, " + set + ")", x.both(15, set), -1);
            due("both(7, " + set + ")", x.both(7, set), -1);
        }
        due("both(7, 15)", x.both(7, 15), -2);
        due("both(15, 31)", x.both(15, 31), -2);
        due("both(15, 15)", x.both(15, 15), 15);
        due("both(15, its tetrad)", x.both(15, 5264), 15);
        // Two tetrads within an octad that meet in two points share that octad and two others.
        int octad = x.block(1, 0);
        int[] points = new int[8];
        int filled = 0;
        for (int p = 0; p < 24; p++) {
            if ((octad >> p & 1) == 1) {
                points[filled++] = 1 << p;
            }
        }
        int one = points[0] | points[1] | points[2] | points[3];
        due("two points in common", x.both(one, points[0] | points[1] | points[4] | points[5]), 3);
        due("three points in common", x.both(one, points[0] | points[1] | points[2] | points[5]), 1);
        due("both(15, 240)", x.both(15, 240), 0);
    }

    private static void met() {
        Bench x = new Bench();
        for (int set : NO_SETS) {
            due("met(" + set + ", 0)", x.met(set, 0), -1);
        }
        for (int k : new int[] {-1, 9, MAX, MIN}) {
            due("met(0, " + k + ")", x.met(0, k), -1);
        }
        int octad = x.block(1, 300);
        int[] due = {30, 0, 448, 0, 280, 0, 0, 0, 1};
        for (int k = 0; k < 9; k++) {
            due("met(octad, " + k + ")", x.met(octad, k), due[k]);
        }
        due("met(ALL, 8)", x.met(ALL, 8), 759);
        due("met(ALL, 7)", x.met(ALL, 7), 0);
    }

    private static void move() {
        Bench x = new Bench();
        for (int bad : new int[] {-1, MIN, MAX}) {
            due("move(" + bad + ", 0)", x.move(bad, 0), -1);
            due("move(0, " + bad + ")", x.move(0, bad), -1);
        }
        due("move(5, 0)", x.move(5, 0), -1);
        due("move(0, 24)", x.move(0, 24), -1);
        for (int p = 0; p < 23; p++) {
            due("step", x.move(0, p), (p + 1) % 23);
            due("twice", x.move(1, p), 2 * p % 23);
            due("over", p == 0 ? 22 : p * x.move(2, p) % 23, 22);
            due("same", x.move(4, p), p);
            boolean isSquare = "1,2,3,4,6,8,9,12,13,16,18".matches("(.*,)?" + p + "(,.*)?");
            due("wild", x.move(3, p), (isSquare ? 18 : 9) * p * p * p % 23);
        }
        due("over of 0", x.move(2, 0), 23);
        due("over of 23", x.move(2, 23), 0);
        for (int m : new int[] {0, 1, 3, 4}) {
            due("23 stays", x.move(m, 23), 23);
        }
    }

    private static void told() {
        Bench x = new Bench();
        for (int what = 0; what < 8; what++) {
            due("told(-1, " + what + ")", x.told(-1, what), -1);
            due("told(5, " + what + ")", x.told(5, what), -1);
        }
        for (int what : new int[] {-1, 8, MIN, MAX}) {
            due("told(0, " + what + ")", x.told(0, what), -1);
        }
        int[][] due = {
            {1, 1, 2, 23, 0, 0, 0, 60}, {1, 2, 4, 11, 0, 0, 0, 59}, {1, 0, 12, 2, 0, 7, 0, 74},
            {1, 4, 8, 5, 0, 4, 0, 56}, {1, 24, 24, 1, 0, 759, 1, 0}};
        due[1][5] = x.told(1, 5);
        due[2][5] = x.told(2, 5);
        for (int m = 0; m < 5; m++) {
            for (int what = 0; what < 8; what++) {
                if (what != 6 || m == 4) {
                    due("told(" + m + ", " + what + ")", x.told(m, what), due[m][what]);
                }
            }
        }
        for (int m = 1; m < 4; m++) {
            int fixed = 0;
            for (int k = 0; k < 759; k++) {
                x = x.renewed();
                fixed += x.sent(m, x.block(1, k)) == x.block(1, k) ? 1 : 0;
            }
            due("told(" + m + ", 5)", x.told(m, 5), fixed);
        }
        typeAll(x, "(0,1,2,3,4,5,6)*(7,8,9,10,11)*(12,13,14,15,16,17,18,19)*(20,21,22)");
        x.read(0);
        due("the longest order", x.told(0, 3), 840);
        due("an odd one", x.told(0, 4), (24 - 5) % 2);
        due("no code", x.told(0, 0), 0);
        whereChosenGoes();
    }

    private static void whereChosenGoes() {
        Bench x = new Bench();
        int inside = D;
        int outside = ALL ^ D;
        StringBuilder swaps = new StringBuilder();
        for (int k = 0; k < 12; k++) {
            int p = Integer.numberOfTrailingZeros(inside);
            int q = Integer.numberOfTrailingZeros(outside);
            swaps.append(k == 0 ? "" : "*").append('(').append(p).append(',').append(q).append(')');
            inside &= inside - 1;
            outside &= outside - 1;
        }
        typeAll(x, swaps.toString());
        x.read(0);
        due("to its complement", x.told(0, 6), 2);
        typeAll(x, "(0,1)");
        x.read(1);
        due("to itself, not with the code", x.told(1, 6), 1);
        due("no code", x.told(1, 0), 0);
        due("elsewhere", x.told(3, 6), x.sent(3, D) == D ? 1 : 0);
        typeAll(x, "(0,5)");
        x.read(2);
        due("elsewhere", x.told(2, 6), 0);
        due("fixed octads of a swap", x.told(2, 5), 77 + 759 - 2 * 253 + 77);
        x.choose(ALL ^ D);
        due("the complement", x.told(0, 6), 2);
    }

    private static void letter() {
        Bench x = new Bench();
        due("letter(-1, 0)", x.letter(-1, 0), -1);
        due("letter(5, 0)", x.letter(5, 0), -1);
        due("letter(0, -1)", x.letter(0, -1), -1);
        due("letter(0, MIN)", x.letter(0, MIN), -1);
        due("letter(0, MAX)", x.letter(0, MAX), -4);
        due("letter(0, 59)", x.letter(0, 59), ')');
        due("letter(0, 60)", x.letter(0, 60), -4);
        due("letter(4, 0)", x.letter(4, 0), -4);
        due("letter(2, 73)", x.letter(2, 73), ')');
        due("letter(2, 74)", x.letter(2, 74), -4);
    }

    private static void sent() {
        Bench x = new Bench();
        for (int set : NO_SETS) {
            due("sent(0, " + set + ")", x.sent(0, set), -1);
        }
        due("sent(-1, 0)", x.sent(-1, 0), -1);
        due("sent(5, 0)", x.sent(5, 0), -1);
        due("sent(0, 1 << 22)", x.sent(0, 1 << 22), 1);
        due("sent(0, ALL)", x.sent(0, ALL), ALL);
        due("sent(2, 3)", x.sent(2, 3), 1 << 23 | 1 << 22);
        due("sent(4, 12345)", x.sent(4, 12345), 12345);
        due("sent(0, 0)", x.sent(0, 0), 0);
    }

    private static void type() {
        Bench x = new Bench();
        for (int letter : new int[] {31, 127, -1, 0, MIN, MAX, 128, 255}) {
            due("type(" + letter + ")", x.type(letter), -1);
        }
        for (int k = 1; k <= 100; k++) {
            due("type " + k, x.type(k % 2 == 0 ? 32 : 126), k);
        }
        due("a full tape", x.type('a'), -3);
        due("a full tape", x.type(31), -1);
        due("read(4)", x.read(4), -1);
        due("the tape stays", x.type('a'), -3);
        due("the tape goes", x.read(3), -20);
        due("an empty tape", x.type('a'), 1);
    }

    private static void readValues() {
        dueRead("same", "");
        dueRead("(7)", "");
        dueRead("(0,1)*(1,2)", "(0,2,1)");
        dueRead("(1,2)*(0,1)", "(0,1,2)");
        dueRead("(5,3,23)", "(3,23,5)");
        dueRead("(05,03,23)", "(3,23,5)");
        dueRead("  ( 5 , 3 , 23 )  ", "(3,23,5)");
        dueRead("(0,1,2,3)^2", "(0,2)(1,3)");
        dueRead("(0,1,2,3)^-1", "(0,3,2,1)");
        dueRead("(0,1,2,3) ^ - 01", "(0,3,2,1)");
        dueRead("(0,1,2,3)^0", "");
        dueRead("(0,1,2,3)^-0", "");
        dueRead("(0,1,2,3)^00", "");
        dueRead("(0,1,2,3)^99", "(0,3,2,1)");
        dueRead("(0,1,2,3)^-99", "(0,1,2,3)");
        dueRead("(0,1)*(2,3,4)^2", "(0,1)(2,4,3)");
        dueRead("[(0,1)*(2,3,4)]^2", "(2,4,3)");
        dueRead("[[(0,1,2)]^2]^2", "(0,1,2)");
        dueRead("[[[[[[(0,1)]]]]]]*[[[[[[(1,2)]]]]]]", "(0,2,1)");
        dueRead("step^23", "");
        dueRead("over*step", "(0,23,1)(2,12,22)(3,16,11)(4,18,15)(5,10,17)(6,20,9)(7,14,19)(8,21,13)");
        dueRead("step*step^-1*a", "");
        dueRead("b*twice^-1", "");
        dueRead("c^2*d^5*e", "");
        dueRead("(0,1,2,3,4,5,6,7,8,9,10,11,12,13,14,15,16,17,18,19,20,21,22,23)^12",
            "(0,12)(1,13)(2,14)(3,15)(4,16)(5,17)(6,18)(7,19)(8,20)(9,21)(10,22)(11,23)");
        dueRead("step   *   same", "(0,1,2,3,4,5,6,7,8,9,10,11,12,13,14,15,16,17,18,19,20,21,22)");
    }

    private static void readErrors() {
        Bench x = new Bench();
        for (int m : new int[] {-1, 4, 5, MIN, MAX}) {
            x.type('a');
            due("read(" + m + ")", x.read(m), -1);
        }
        due("the tape stays", x.type('a'), 6);
        due("a run that is no name", x.read(0), -20);
        String[] tapes = {"", " ", "*", "a*", "a* ", "a**b", "a b", "a2", "a^", "a^-", "a^--1", "a^100", "a^1 0",
            "a^5^2", "a^-5^2", "a^b", "a^(0,1)", "f", "aa", "steps", "step step", "st ep", "A", "(", "()", "(a)",
            "(1", "(1,", "(1,)", "(1,2", "(1 2)", "(1,24)", "(24)", "(99)", "(100)", "(007)", "(1,2,1)", "(1, 1)",
            "(1,  01)", "(1;2)", "[", "[]", "[a", "[a ", "[a)", "a]", "[a]]", "[[[[[[[a]]]]]]]",
            "[[[[[[a]]]]]]*[[[[[[[a]]]]]]]", "a^ 7 ^", "(0,1)(2,3)", "a*2", "2", "a*^2", "^2", "-a", "a^2a", "a^2(0)",
            "a,b", "(-1)", "(0,-1)", "[a]^[2]", "a~", "samee", "same e", " a  !", "[a*]", "[a^2", "[ (1,2]"};
        int[] positions = {0, 1, 0, 2, 3, 2, 2, 1, 2, 3, 3, 2, 4,
            3, 4, 2, 2, 0, 0, 0, 5, 0, 0, 1, 1, 1,
            2, 3, 3, 4, 3, 3, 1, 1, 1, 1, 5, 4,
            5, 2, 1, 1, 2, 3, 2, 1, 3, 6,
            20, 5, 5, 2, 0, 2, 0, 0, 3, 3,
            1, 1, 3, 4, 1, 0, 5, 4, 3, 4, 6};
        due("as many positions as tapes", positions.length, tapes.length);
        for (int k = 0; k < tapes.length; k++) {
            dueError(tapes[k], positions[k]);
        }
        String full = "                                                                                                  a*";
        due("a full tape", full.length(), 100);
        dueError(full, 100);
        String all = "(0,1,2,3,4,5,6,7,8,9,10,11,12,13,14,15,16,17,18,19,20,21,22,23";
        dueError(all, all.length());
        dueError(all + ",", all.length() + 1);
        dueError(all + ", 5)", all.length() + 2);
        dueError(all + "(", all.length());
    }

    private static void readNames() {
        Bench x = new Bench();
        typeAll(x, "step*step");
        due("step^2 is elsewhere", x.read(0), 23);
        due("a is as it is now", x.move(0, 0), 2);
        typeAll(x, "a*a");
        due("a*a", x.read(1), 22);
        due("b", x.move(1, 0), 4);
        typeAll(x, "step");
        due("step stays step", x.read(2), 24);
        due("step", x.move(2, 0), 1);
        typeAll(x, "[a*b^2]^-1*c");
        x.read(3);
        due("letters in a product", x.move(3, 12), 12 - 10 + 1);
        typeAll(x, "d");
        due("the same one", x.read(3), 0);
        due("is a change too", x.count(1), 5);
        typeAll(x, "e");
        due("e is the identity", x.read(0), 23);
    }

    private static void group() {
        Bench x = new Bench();
        for (int what = 0; what < 5; what++) {
            due("group(-1)", x.group(-1, what), -1);
            due("group(16)", x.group(16, what), -1);
        }
        for (int what : new int[] {-1, 5, MIN, MAX}) {
            due("group(0, " + what + ")", x.group(0, what), -1);
        }
        int[] none = {1, 24, 759, 2576, 1771};
        int[] all = {244823040, 1, 1, 1, 1};
        int[] step = {23, 2, 33, 112, 77};
        for (int what = 0; what < 5; what++) {
            due("group(0, " + what + ")", x.group(0, what), none[what]);
            due("group(15, " + what + ")", x.group(15, what), all[what]);
            due("group(1, " + what + ")", x.group(1, what), step[what]);
        }
        due("PSL(2, 23)", x.group(7, 0), 6072);
        due("M23", x.group(11, 0), 10200960);
        typeAll(x, "(0,1)");
        x.read(2);
        for (int what = 0; what < 5; what++) {
            due("group(4, " + what + ")", x.group(4, what), -2);
            due("group(15, " + what + ")", x.group(15, what), -2);
        }
        due("BAD first", x.group(4, 5), -1);
        due("without it", x.group(11, 0), 10200960);
        typeAll(x, "same");
        x.read(2);
        due("the identity adds nothing", x.group(5, 0), 23);
    }

    private static void held() {
        Bench x = new Bench();
        for (int set : NO_SETS) {
            due("held(0, " + set + ", 0)", x.held(0, set, 0), -1);
        }
        for (int what : new int[] {-1, 3, MIN, MAX}) {
            due("held(0, 0, " + what + ")", x.held(0, 0, what), -1);
        }
        due("held(-1, 0, 0)", x.held(-1, 0, 0), -1);
        due("held(16, 0, 0)", x.held(16, 0, 0), -1);
        due("orbits", x.held(2, 1 << 1 | 1 << 23, 0), 1 << 23 | orbitOf(x, 1, 1));
        due("orbit of 0", x.held(2, 1, 0), 1);
        due("step", x.held(1, 1 << 7, 0), ALL >> 1);
        due("no points", x.held(15, 0, 0), 0);
        due("no points, all elements", x.held(15, 0, 1), 244823040);
        due("all points, the identity", x.held(15, ALL, 1), 1);
        due("step and point 23", x.held(1, 1 << 23, 1), 23);
        due("step and point 0", x.held(1, 1, 1), 1);
        due("D", x.held(15, D, 2), 95040);
        due("its complement", x.held(15, ALL ^ D, 2), 95040);
        due("an octad", x.held(15, 5279, 2), 322560);
        due("all but an octad", x.held(15, ALL ^ 5279, 2), 322560);
        due("no points", x.held(3, 0, 2), 253);
        due("all points", x.held(3, ALL, 2), 253);
        due("no word", x.held(3, 1, 2), -2);
        due("no word, but what is 1", x.held(3, 1, 1), 11);
        typeAll(x, "(0,1)");
        x.read(0);
        due("no code", x.held(1, 0, 0), -2);
        due("no code", x.held(3, 0, 1), -2);
        due("no code", x.held(1, 0, 2), -2);
        due("BAD first", x.held(1, -1, 0), -1);
        due("without it", x.held(2, 1, 1), 11);
    }

    private static int orbitOf(Bench x, int m, int p) {
        int orbit = 0;
        int q = p;
        for (int k = 0; k < 24; k++) {
            orbit |= 1 << q;
            q = x.move(m, q);
        }
        return orbit;
    }

    private static void holds() {
        Bench x = new Bench();
        due("holds(-1, 0)", x.holds(-1, 0), -1);
        due("holds(16, 0)", x.holds(16, 0), -1);
        due("holds(0, -1)", x.holds(0, -1), -1);
        due("holds(0, 5)", x.holds(0, 5), -1);
        due("the identity", x.holds(0, 4), 1);
        due("step", x.holds(0, 0), 0);
        due("step", x.holds(1, 0), 1);
        due("over", x.holds(3, 2), 0);
        due("over", x.holds(7, 2), 1);
        due("wild", x.holds(7, 3), 0);
        typeAll(x, "[over*wild]^3*step^7");
        x.read(1);
        due("a product", x.holds(13, 1), 1);
        due("a product", x.holds(4, 1), 0);
        typeAll(x, "(0,1)");
        x.read(1);
        due("need not preserve the code", x.holds(13, 1), 0);
        due("must preserve the code", x.holds(2, 0), -2);
        due("must preserve the code", x.holds(2, 1), -2);
        due("BAD first", x.holds(2, 5), -1);
        typeAll(x, "twice^5");
        x.read(0);
        typeAll(x, "twice");
        x.read(1);
        due("a power's power", x.holds(1, 1), 1);
    }

    private static void choose() {
        Bench x = new Bench();
        for (int set : NO_SETS) {
            due("choose(" + set + ")", x.choose(set), -1);
        }
        due("D already", x.choose(D), -2);
        due("an octad", x.choose(5279), -2);
        due("no word", x.choose(4095), -2);
        due("no change", x.count(1), 0);
        due("the complement", x.choose(ALL ^ D), D);
        due("back", x.choose(D), ALL ^ D);
        due("changes", x.count(1), 2);
        due("dodecad 17", x.choose(x.block(2, 17)), D);
        due("D", x.count(0), x.block(2, 17));
    }

    private static void hexad() {
        Bench x = new Bench();
        for (int set : NO_SETS) {
            due("hexad(" + set + ")", x.hexad(set), -1);
        }
        due("no points", x.hexad(0), -2);
        due("not in D", x.hexad(31), -2);
        due("six points", x.hexad(x.hexad(19616)), -2);
        x.choose(x.block(2, 1234));
        int chosen = x.count(0);
        int five = 0;
        int rest = chosen;
        for (int k = 0; k < 5; k++) {
            five |= rest & -rest;
            rest &= rest - 1;
        }
        due("with five points", x.hexad(five) & five, five);
        due("in D", x.hexad(five) & ~chosen, 0);
        due("six points", x.word(x.hexad(five), 0), 6);
        due("of an octad", x.complete(five) & chosen, x.hexad(five));
        due("four points and another one", x.hexad(five & five - 1 | ~chosen & -~chosen), -2);
    }

    private static void turn() {
        Bench x = new Bench();
        for (int bad : new int[] {-1, 24, MIN, MAX}) {
            due("turn(" + bad + ", 0)", x.turn(bad, 0), -1);
            due("turn(0, " + bad + ")", x.turn(0, bad), -1);
            due("turn(5, " + bad + ")", x.turn(5, bad), -1);
        }
        due("in D", x.turn(5, 0), -2);
        due("in D", x.turn(0, 5), -2);
        due("the same", x.turn(0, 0), -2);
        due("turn(0, 1)", x.turn(0, 1), 3719200);
        for (int k = 0; k < 2576; k += 400) {
            x = new Bench();
            x.choose(x.block(2, k));
            int chosen = x.count(0);
            for (int p = 0; p < 24; p++) {
                for (int q = 0; q < p; q++) {
                    if ((chosen & (1 << p | 1 << q)) == 0) {
                        int hexad = x.turn(p, q);
                        due("its pair", x.pair(hexad), 1 << p | 1 << q);
                        due("the lowest point", hexad & chosen & -chosen, chosen & -chosen);
                        due("the other way", x.turn(q, p), hexad);
                        due("the other hexad", x.pair(chosen ^ hexad), 1 << p | 1 << q);
                    }
                }
            }
        }
    }

    private static void pair() {
        Bench x = new Bench();
        for (int set : NO_SETS) {
            due("pair(" + set + ")", x.pair(set), -1);
        }
        due("no points", x.pair(0), -2);
        due("five points", x.pair(19616), -2);
        due("pair(4213920)", x.pair(4213920), 12);
        int hexads = 0;
        for (int set = D; set > 0; set = set - 1 & D) {
            x = x.renewed();
            hexads += x.pair(set) == -2 ? 0 : 1;
        }
        due("the number of hexads", hexads, 132);
        x.choose(ALL ^ D);
        due("of another D", x.pair(4213920), -2);
    }

    private static void drift() {
        Bench x = new Bench();
        for (int n : new int[] {0, -1, 41, MIN, MAX}) {
            due("drift(" + n + ")", x.drift(n), -1);
        }
        due("no change", x.count(1), 0);
        for (int v : new int[] {0, 1, 77, 123456789, MAX}) {
            Bench turning = new Bench();
            turning.seed(v);
            int[][] rows = rows(turning);
            int chosen = D;
            int r = v;
            for (int k = 0; k < 14; k++) {
                int high = next(r) / 65536;
                r = next(r);
                int y = high / 8;
                chosen = high % 8 == 0 ? turning.block(2, y % 2576) : chosen;
                due("D", turning.drift(1), chosen);
                if (high % 8 != 0) {
                    int[] first = rows[high % 4];
                    int[] then = rows[y % 5];
                    rows[high % 4] = Arrays.stream(first).map(p -> then[p]).toArray();
                }
                due("the permutations", Arrays.deepEquals(rows(turning), rows) ? 1 : 0, 1);
            }
            due("r", turning.seed(0), r);
        }
        Bench one = new Bench();
        Bench many = new Bench();
        for (int k = 0; k < 40; k++) {
            one.drift(1);
        }
        due("drift(40)", many.drift(40), one.count(0));
        due("r", many.seed(0), one.seed(0));
        for (int m = 0; m < 4; m++) {
            due("the same", many.sent(m, 12345), one.sent(m, 12345));
        }
        due("changes", many.count(1), 6);
    }

    private static int next(int r) {
        return BigInteger.valueOf(r).multiply(BigInteger.valueOf(1103515245)).add(BigInteger.valueOf(12345))
            .mod(BigInteger.valueOf(1L << 31)).intValueExact();
    }

    private static int[][] rows(Bench x) {
        int[][] rows = new int[5][];
        for (int m = 0; m < 5; m++) {
            rows[m] = x.row(m);
        }
        return rows;
    }

    private static void undo() {
        Bench x = new Bench();
        due("undo()", x.undo(), -4);
        x.choose(x.block(2, 5));
        x.seed(99);
        typeAll(x, "same");
        x.read(0);
        x.sheet(0, 0, 2);
        x.item(0, 0, 0, 3);
        x.item(0, 0, 1, 6);
        due("retrace", x.retrace(2, 0, 0, 0, 1), 1);
        due("permutation 4", x.move(4, 3), 6);
        due("undo()", x.undo(), 1);
        due("permutation 4 too", x.move(4, 3), 3);
        due("permutation 0", x.move(0, 3), 4);
        due("D", x.count(0), x.block(2, 5));
        due("r", x.seed(7), 99);
        due("undo()", x.undo(), 0);
        due("r too", x.seed(8), 1);
        due("D", x.count(0), D);
        due("undo()", x.undo(), -4);
        due("r stays", x.seed(8), 8);
        due("the sheet stays", x.drop(0), 2);
        for (int k = 0; k < 9; k++) {
            x.choose(x.block(2, 100 + k));
        }
        due("six changes", x.count(1), 6);
        for (int k = 5; k >= 0; k--) {
            due("undo()", x.undo(), k);
            due("D", x.count(0), x.block(2, 102 + k));
        }
        due("undo()", x.undo(), -4);
    }

    private static void seed() {
        Bench x = new Bench();
        due("seed(-1)", x.seed(-1), -1);
        due("seed(MIN)", x.seed(MIN), -1);
        due("seed(0)", x.seed(0), 1);
        due("seed(MAX)", x.seed(MAX), 0);
        due("seed(1)", x.seed(1), MAX);
        due("no change", x.count(1), 0);
    }

    private static void count() {
        Bench x = new Bench();
        for (int what : new int[] {-1, 4, MIN, MAX}) {
            due("count(" + what + ")", x.count(what), -1);
        }
        due("count(2)", x.count(2), 31);
        typeAll(x, "(0,1)");
        x.read(3);
        due("count(2)", x.count(2), 23);
        due("count(1)", x.count(1), 1);
        x.image();
        due("count(3)", x.count(3), 1);
        x.restore();
        due("count(3)", x.count(3), 1);
    }

    private static void image() {
        Bench x = new Bench();
        due("restore()", x.restore(), -4);
        x.choose(x.block(2, 5));
        x.seed(31);
        x.type('d');
        due("image()", x.image(), 1);
        x.choose(x.block(2, 6));
        x.drift(7);
        x.sheet(1, 1, 5);
        x.type('*');
        x.type('d');
        due("read(2)", x.read(2) >= 0 ? 1 : 0, 1);
        x.type('q');
        due("restore()", x.restore(), 1);
        due("the tape stays", x.type('q'), 2);
        due("the sheet stays", x.drop(1), 5);
        due("D", x.count(0), x.block(2, 5));
        due("r", x.seed(5), 31);
        due("wild", x.told(3, 3), 5);
        due("over", x.move(2, 0), 23);
        due("changes", x.count(1), 1);
        due("undo()", x.undo(), 0);
        due("D", x.count(0), D);
        due("again", x.restore(), 1);
        due("changes", x.count(1), 1);
        due("D", x.count(0), x.block(2, 5));
        x.undo();
        x.image();
        x.choose(x.block(2, 9));
        x.restore();
        due("saved anew", x.count(0), D);
        due("saved anew", x.count(1), 0);
        x.drift(3);
        x.restore();
        due("still as saved", x.move(0, 0), 1);
    }

    private static void retrace() {
        Bench x = new Bench();
        x.sheet(0, 3, 32);
        due("point 0 stays", x.retrace(15, 0, 3, 0, 8), 10200960);
        due("the identity is lowest", x.told(4, 7), 0);
        x.item(0, 3, 30, 4);
        x.item(0, 3, 31, 5);
        due("at the end", x.retrace(1, 0, 3, 30, 1), 1);
        due("step", x.move(4, 10), 11);
        due("no change", x.count(1), 0);
        x.item(0, 3, 28, 4);
        x.item(0, 3, 29, 6);
        due("to two points", x.retrace(15, 0, 3, 28, 2), 0);
        due("permutation 4 stays", x.move(4, 10), 11);
        x.item(0, 3, 28, 7);
        x.item(0, 3, 29, 5);
        due("two points to one", x.retrace(15, 0, 3, 28, 2), 0);
        x.item(0, 3, 28, 4);
        due("twice the same pair", x.retrace(15, 0, 3, 28, 2), 10200960);
        due("0 to the lowest", x.move(4, 0), 0);
        due("1 to the lowest", x.move(4, 1), 1);
        due("2 to the lowest", x.move(4, 2), 2);
        due("3 to the lowest", x.move(4, 3), 3);
        due("4 to 5", x.move(4, 4), 5);
        due("holds", x.holds(15, 4), 1);
        due("no generators", x.retrace(0, 0, 3, 28, 2), 0);
        x.item(0, 3, 31, 4);
        due("no generators", x.retrace(0, 0, 3, 30, 1), 1);
        due("the identity", x.told(4, 1), 24);
    }

    private static void retraceErrors() {
        Bench x = new Bench();
        due("NULL", x.retrace(15, 0, 3, 0, 1), -11);
        due("BAD", x.retrace(16, 0, 3, 0, 1), -1);
        due("BAD", x.retrace(-1, 0, 3, 0, 1), -1);
        due("BAD", x.retrace(15, 4, 3, 0, 1), -1);
        due("BAD", x.retrace(15, -1, 3, 0, 1), -1);
        due("BAD", x.retrace(15, 0, 4, 0, 1), -1);
        due("BAD", x.retrace(15, 0, -1, 0, 1), -1);
        due("BAD", x.retrace(15, 0, 3, 0, 0), -1);
        due("BAD", x.retrace(15, 0, 3, 0, 9), -1);
        x.sheet(0, 3, 4);
        due("CAST", x.retrace(15, 0, 2, 9, 1), -12);
        due("INDEX", x.retrace(15, 0, 3, -1, 1), -13);
        due("INDEX", x.retrace(15, 0, 3, 3, 1), -13);
        due("INDEX", x.retrace(15, 0, 3, MAX, 1), -13);
        due("INDEX", x.retrace(15, 0, 3, MIN, 8), -13);
        due("INDEX", x.retrace(15, 0, 3, 1, 2), -13);
        x.item(0, 3, 3, 24);
        due("within", x.retrace(15, 0, 3, 0, 1), 10200960);
        due("no point", x.retrace(15, 0, 3, 0, 2), -2);
        x.item(0, 3, 3, -1);
        due("no point", x.retrace(15, 0, 3, 2, 1), -2);
        x.item(0, 3, 3, 1L << 32);
        due("no point", x.retrace(15, 0, 3, 2, 1), -2);
        x.item(0, 3, 1, 1);
        x.item(0, 3, 3, 2);
        due("to two points", x.retrace(15, 0, 3, 0, 2), 0);
        x.item(0, 3, 3, 99);
        due("INDEX first", x.retrace(15, 0, 3, 3, 1), -13);
        typeAll(x, "(0,1)");
        x.read(0);
        due("no code", x.retrace(1, 0, 3, 0, 1), -2);
        due("INDEX first", x.retrace(1, 0, 3, 4, 1), -13);
        x.item(0, 3, 1, 23);
        due("without it", x.retrace(14, 0, 3, 0, 1), x.group(14, 0) / 2);
    }

    private static void film() {
        Bench x = new Bench();
        due("NULL", x.film(0, 0, 0, 0), -11);
        due("BAD", x.film(5, 0, 0, 0), -1);
        due("BAD", x.film(-1, 0, 0, 0), -1);
        due("BAD", x.film(0, 4, 0, 0), -1);
        due("BAD", x.film(0, 0, 4, 0), -1);
        x.sheet(0, 1, 26);
        due("CAST", x.film(0, 0, 0, 99), -12);
        due("INDEX", x.film(0, 0, 1, -1), -13);
        due("INDEX", x.film(0, 0, 1, 3), -13);
        due("INDEX", x.film(0, 0, 1, MAX), -13);
        due("INDEX", x.film(0, 0, 1, MIN), -13);
        x.item(0, 1, 0, 5);
        x.item(0, 1, 1, 5);
        due("film", x.film(1, 0, 1, 2), 24);
        // What stands there now are the pairs 5 to 5, 0 to 2, 4 to 6 and so on.
        due("before it", x.retrace(0, 0, 1, 0, 1), 1);
        due("the first ones", x.retrace(1, 0, 1, 2, 1), 1);
        due("0 to 2", x.move(4, 0), 2);
        due("the last ones", x.retrace(4, 0, 1, 24, 1), 0);
        due("21 to 23", x.retrace(15, 0, 1, 24, 1), 10200960);
        due("21 to 23", x.move(4, 21), 23);
    }

    private static void sheet() {
        Bench x = new Bench();
        for (int bad : new int[] {-1, 4, MIN, MAX}) {
            due("sheet(" + bad + ", 0, 1)", x.sheet(bad, 0, 1), -1);
            due("sheet(0, " + bad + ", 1)", x.sheet(0, bad, 1), -1);
            due("drop(" + bad + ")", x.drop(bad), -1);
        }
        due("sheet(0, 0, 33)", x.sheet(0, 0, 33), -1);
        due("sheet(0, 0, MAX)", x.sheet(0, 0, MAX), -1);
        due("sheet(0, 0, -1)", x.sheet(0, 0, -1), -14);
        due("sheet(0, 0, MIN)", x.sheet(0, 0, MIN), -14);
        due("BAD first", x.sheet(4, 0, -1), -1);
        due("drop(0)", x.drop(0), -11);
        due("sheet(0, 0, 0)", x.sheet(0, 0, 0), 0);
        due("drop(0)", x.drop(0), 0);
        due("drop(0)", x.drop(0), -11);
        due("sheet(0, 2, 32)", x.sheet(0, 2, 32), 32);
        due("item", x.item(0, 2, 31, 9), 1);
        due("SIZE", x.sheet(0, 2, -5), -14);
        due("it stays", x.item(0, 2, 31, 9), 1);
        x.item(0, 2, 0, 9);
        due("replaced", x.sheet(0, 3, 2), 2);
        due("zeros", x.retrace(0, 0, 3, 0, 1), 1);
        due("its lane", x.item(0, 2, 0, 0), -12);
        due("drop(0)", x.drop(0), 2);
    }

    private static void item() {
        Bench x = new Bench();
        for (int bad : new int[] {-1, 4, MIN, MAX}) {
            due("BAD", x.item(bad, 0, 0, 0), -1);
            due("BAD", x.item(0, bad, 0, 0), -1);
        }
        due("NULL", x.item(0, 0, -1, 0), -11);
        long[] narrowed = {256 + 5, 65536 + 5, (1L << 32) + 5, 5};
        long[] negative = {128, 32768, 1L << 31, Long.MIN_VALUE};
        for (int lane = 0; lane < 4; lane++) {
            x.sheet(lane, lane, 2);
            due("CAST", x.item(lane, 3 - lane, 7, 0), -12);
            due("INDEX", x.item(lane, lane, -1, 0), -13);
            due("INDEX", x.item(lane, lane, 2, 0), -13);
            due("INDEX", x.item(lane, lane, MAX, 0), -13);
            due("item", x.item(lane, lane, 0, narrowed[lane]), 1);
            due("item", x.item(lane, lane, 1, narrowed[lane]), 1);
            due("5 to 5", x.retrace(15, lane, lane, 0, 1), 10200960);
            x.item(lane, lane, 1, negative[lane]);
            due("negative", x.retrace(15, lane, lane, 0, 1), -2);
            x.item(lane, lane, 1, negative[lane] / 2);
            due("positive, but no point", x.retrace(15, lane, lane, 0, 1), -2);
        }
    }

    private static void copy() {
        Bench x = new Bench();
        x.sheet(0, 0, 6);
        x.sheet(1, 0, 4);
        x.sheet(2, 1, 4);
        due("BAD", x.copy(-1, 0, 0, 0, 1), -1);
        due("BAD", x.copy(0, 0, 4, 0, 1), -1);
        due("BAD first", x.copy(3, 0, 4, 0, 1), -1);
        due("NULL", x.copy(3, 0, 2, 0, 1), -11);
        due("NULL", x.copy(0, -1, 3, 0, 1), -11);
        due("CAST", x.copy(0, -1, 2, 0, 1), -12);
        int[][] wrong = {{-1, 0, 1}, {0, -1, 1}, {0, 0, -1}, {0, 0, 5}, {6, 0, 1}, {7, 0, 0}, {0, 5, 0}, {0, 4, 1},
            {MAX, 0, MAX}, {0, MAX, 1}, {MAX, MAX, MAX}, {MIN, 0, 0}, {0, 0, MIN}, {3, 0, 4}};
        for (int[] w : wrong) {
            due("INDEX " + w[0] + " " + w[1] + " " + w[2], x.copy(0, w[0], 1, w[1], w[2]), -13);
        }
        due("nothing at the ends", x.copy(0, 6, 1, 4, 0), 0);
        due("all", x.copy(0, 0, 1, 0, 4), 4);
        for (int k = 0; k < 6; k++) {
            x.item(0, 0, k, k);
        }
        due("within one sheet, up", x.copy(0, 0, 0, 2, 4), 4);
        dueItems(x, 0, 1, 0, 1, 2, 3);
        due("within one sheet, down", x.copy(0, 1, 0, 0, 5), 5);
        dueItems(x, 1, 0, 1, 2, 3, 3);
        due("to another", x.copy(0, 2, 1, 1, 3), 3);
        x.copy(1, 0, 0, 0, 4);
        dueItems(x, 0, 1, 2, 3, 3, 3);
    }

    /** Tells the elements of sheet 0 by the pairs that retrace() takes from it. */
    private static void dueItems(Bench x, int... items) {
        typeAll(x, "step");
        x.read(0);
        for (int k = 0; k + 1 < items.length; k++) {
            due("item " + k, x.retrace(1, 0, 0, k, 1), items[k] < 23 ? 1 : 0);
            due("from item " + k, x.move(4, items[k]), items[k + 1]);
        }
    }
}
