import java.util.ArrayList;
import java.util.List;

/** What all methods share about errors: which error comes first, and that a refused call changes nothing. */
final class ErrorBoundaries {
    private static final int ALL = Boundaries.ALL;
    private final Boundaries b;

    /** A call that is refused by the prepared object. */
    private record Refused(String text, int due, Boundaries.Call call) { }

    ErrorBoundaries(Boundaries b) {
        this.b = b;
    }

    void test() {
        lastCall();
        constants();
        badFirst();
        order();
        orderOfSheets();
        orderOfRetrace();
        changesNothing();
        noSuchThing();
        fromZero();
    }

    private void due(String text, int due, Boundaries.Call call) {
        b.due(text, call.on(prepared()), due);
    }

    /**
     * Much is not as at first: permutation 3 does not preserve the code, there is a sheet 0 of bytes with 26 elements, a
     * sheet 1 of shorts with 4 elements, of which one is no point, a sheet 2 of longs, and no sheet 3.
     */
    private static Bench prepared() {
        Bench x = new Bench();
        x.drift(3);
        x.choose(x.block(2, 700));
        x.image();
        x.reads(1, "over*step^3");
        x.drift(2);
        x.reads(3, "(0,1)");
        x.sheet(0, 0, 26);
        x.film(1, 0, 0, 1);
        x.sheet(1, 1, 4);
        x.item(1, 1, 1, x.move(1, 0));
        x.item(1, 1, 2, 99L);
        x.sheet(2, 3, 9);
        x.item(2, 3, 8, 21L);
        x.retrace(2, 1, 1, 0, 1);
        x.seed(4321);
        return x;
    }

    private static Bench withTape() {
        return prepared().types("(3,5)*");
    }

    /** All that calls can tell of an object; it is changed by that. */
    private static List<Integer> stateOf(Bench x) {
        List<Integer> state = new ArrayList<>();
        addChanges(state, x);
        state.add(x.restore());
        addChanges(state, x);
        state.add(x.type('e'));
        state.add(x.read(0));
        addRow(state, x, 0);
        x.reads(1, "step");
        int[] lanes = {0, 1, 3};
        int[] lengths = {26, 4, 9};
        for (int sheet = 0; sheet < 3; sheet++) {
            for (int i = 0; i < lengths[sheet]; i++) {
                state.add(x.retrace(2, sheet, lanes[sheet], i, 1));
                state.add(x.move(4, 0));
            }
        }
        for (int sheet = 0; sheet < 4; sheet++) {
            state.add(x.drop(sheet));
        }
        return state;
    }

    private static void addRow(List<Integer> state, Bench x, int m) {
        for (int p : x.row(m)) {
            state.add(p);
        }
    }

    private static void addChanges(List<Integer> state, Bench x) {
        for (int m = 0; m < 5; m++) {
            addRow(state, x, m);
        }
        for (int what = 0; what < 4; what++) {
            state.add(x.count(what));
        }
        state.add(x.seed(5));
        for (int k = 0; k < 7; k++) {
            state.add(x.undo());
            state.add(x.count(0));
            state.add(x.seed(5));
            for (int m = 0; m < 5; m++) {
                state.add(x.sent(m, 0x2a5c69));
            }
        }
    }

    private void lastCall() {
        b.described("An object is used for at most 512 calls after it has been made; what later calls answer is free.");
        Boundaries.Call[] calls = {x -> x.group(15, 0), x -> x.held(15, Boundaries.D, 2), x -> x.type('['),
            x -> x.read(0), x -> x.image(), x -> x.sheet(0, 3, 32), x -> x.undo(), x -> x.choose(ALL ^ x.count(0))};
        int[] due = {Boundaries.M24, 95040, -3, -20, 1, 32, -4, Boundaries.D};
        for (int k = 0; k < calls.length; k++) {
            Bench x = new Bench();
            // The last of these calls takes two.
            while (x.calls() < (k == calls.length - 1 ? 508 : 511)) {
                calls[k].on(x);
            }
            b.due("the last call of kind " + k, calls[k].on(x), due[k]);
        }
        Bench x = new Bench();
        Reference y = new Reference();
        for (int k = 0; k < 511; k++) {
            b.due("drift " + k, x.drift(40), y.drift(40));
        }
        b.due("the last call", x.seed(0), y.seed(0));
    }

    private void constants() {
        b.described("A method reports an error by a negative return value: BAD (-1) an argument is out of range or "
            + "names "
            + "something that does not exist; NOT (-2) the call is not possible, as the method says; FULL (-3) a limit is "
            + "reached; NULL (-11) a sheet does not exist; CAST (-12) a sheet has another lane than is told, or two sheets "
            + "have different lanes; INDEX (-13) an index is out of bounds; SIZE (-14) a length is negative.");
        int[] constants = {EightBlocks.BAD, EightBlocks.NOT, EightBlocks.FULL, EightBlocks.NONE, EightBlocks.NULL,
            EightBlocks.CAST, EightBlocks.INDEX, EightBlocks.SIZE};
        int[] due = {-1, -2, -3, -4, -11, -12, -13, -14};
        for (int k = 0; k < due.length; k++) {
            b.due("constant " + k, constants[k], due[k]);
        }
        due("out of range", -1, x -> x.move(0, 24));
        due("does not exist", -1, x -> x.block(1, 759));
        due("not possible", -2, x -> x.complete(15));
        due("a limit", -3, x -> x.types(" ".repeat(100)).type(' '));
        due("no sheet", -11, x -> x.drop(3));
        due("another lane", -12, x -> x.item(0, 1, 0, 0L));
        due("different lanes", -12, x -> x.copy(0, 0, 1, 0, 1));
        due("an index", -13, x -> x.item(0, 0, 26, 0L));
        due("a length", -14, x -> x.sheet(0, 0, -1));
    }

    private void badFirst() {
        b.described("BAD is checked before all others; then each method checks its errors in the order in which it "
            + "lists them, "
            + "and returns the first that applies.");
        due("sextet(7, 6)", -1, x -> x.sextet(7, 6));
        due("sextet(7, -1)", -1, x -> x.sextet(7, -1));
        due("both(7, -1)", -1, x -> x.both(7, -1));
        due("both(-1, 7)", -1, x -> x.both(-1, 7));
        due("letter(5, 999)", -1, x -> x.letter(5, 999));
        due("type(127), full", -1, x -> x.types(" ".repeat(100)).type(127));
        due("read(4), an error", -1, x -> x.types("(").read(4));
        due("group(8, 5)", -1, x -> x.group(8, 5));
        due("group(24, 0)", -1, x -> x.group(24, 0));
        due("held(8, -1, 0)", -1, x -> x.held(8, -1, 0));
        due("held(8, 0, 3)", -1, x -> x.held(8, 0, 3));
        due("held(0, 1, 3)", -1, x -> x.held(0, 1, 3));
        due("held(16, 1, 2)", -1, x -> x.held(16, 1, 2));
        due("held(0, -1, 2)", -1, x -> x.held(0, -1, 2));
        due("holds(8, 5)", -1, x -> x.holds(8, 5));
        due("holds(24, 0)", -1, x -> x.holds(24, 0));
        for (int p = 0; p < 24; p++) {
            int point = p;
            due("turn(24, " + p + ")", -1, x -> x.turn(24, point));
            due("turn(" + p + ", -1)", -1, x -> x.turn(point, -1));
        }
        due("turn(24, 24)", -1, x -> x.turn(24, 24));
        due("sheet(4, 0, -1)", -1, x -> x.sheet(4, 0, -1));
        due("sheet(0, 4, -1)", -1, x -> x.sheet(0, 4, -1));
        due("film(5, 3, 0, -1)", -1, x -> x.film(5, 3, 0, -1));
        due("film(5, 0, 1, -1)", -1, x -> x.film(5, 0, 1, -1));
        due("film(5, 0, 0, 3)", -1, x -> x.film(5, 0, 0, 3));
        due("film(0, 3, 4, 0)", -1, x -> x.film(0, 3, 4, 0));
        due("film(0, 0, 4, 3)", -1, x -> x.film(0, 0, 4, 3));
        due("item(3, 4, 0, 0)", -1, x -> x.item(3, 4, 0, 0L));
        due("item(0, 4, -1, 0)", -1, x -> x.item(0, 4, -1, 0L));
        due("copy(4, 0, 3, 0, 0)", -1, x -> x.copy(4, 0, 3, 0, 0));
        due("copy(3, 0, 4, 0, 0)", -1, x -> x.copy(3, 0, 4, 0, 0));
        due("copy(-1, -1, 0, 0, -1)", -1, x -> x.copy(-1, -1, 0, 0, -1));
        due("copy(0, -1, -1, 0, -1)", -1, x -> x.copy(0, -1, -1, 0, -1));
    }

    private void order() {
        b.described("BAD is checked before all others; then each method checks its errors in the order in which it "
            + "lists them, "
            + "and returns the first that applies.");
        due("no code, and no word: both are NOT", -2, x -> x.held(8, 1, 2));
        due("no four points, twice", -2, x -> x.both(7, 31));
        due("both in D, and the same", -2, x -> {
            int chosen = x.count(0);
            int p = Integer.numberOfTrailingZeros(chosen);
            return x.turn(p, p);
        });
    }

    private void orderOfSheets() {
        b.described("BAD is checked before all others; then each method checks its errors in the order in which it "
            + "lists them, "
            + "and returns the first that applies.");
        due("film: NULL, INDEX", -11, x -> x.film(0, 3, 0, -1));
        due("film: CAST, INDEX", -12, x -> x.film(0, 0, 1, -1));
        due("film: CAST, INDEX at the end", -12, x -> x.film(0, 1, 0, 3));
        due("film: INDEX", -13, x -> x.film(0, 0, 0, 3));
        due("item: NULL, INDEX", -11, x -> x.item(3, 0, -1, 0L));
        due("item: CAST, INDEX", -12, x -> x.item(0, 1, -1, 0L));
        due("item: CAST, INDEX at the end", -12, x -> x.item(1, 0, 4, 0L));
        due("item: INDEX", -13, x -> x.item(1, 1, 4, 0L));
        due("copy: NULL, INDEX", -11, x -> x.copy(3, -1, 0, 0, 1));
        due("copy: NULL, INDEX", -11, x -> x.copy(0, 0, 3, 0, -1));
        due("copy: NULL, INDEX at the end", -11, x -> x.copy(0, 27, 3, 0, 1));
        due("copy: CAST, INDEX", -12, x -> x.copy(0, -1, 1, 0, 1));
        due("copy: CAST, INDEX", -12, x -> x.copy(0, 0, 1, -1, 1));
        due("copy: CAST, INDEX", -12, x -> x.copy(0, 0, 1, 0, -1));
        due("copy: CAST, INDEX at the end", -12, x -> x.copy(0, 0, 1, 0, 5));
        due("copy: INDEX", -13, x -> x.copy(0, 27, 0, 0, 0));
    }

    private void orderOfRetrace() {
        b.described("BAD is checked before all others; then each method checks its errors in the order in which it "
            + "lists them, "
            + "and returns the first that applies.");
        due("BAD, NULL", -1, x -> x.retrace(16, 3, 0, 0, 1));
        due("BAD, NULL", -1, x -> x.retrace(0, 3, 4, 0, 1));
        due("BAD, NULL", -1, x -> x.retrace(0, 3, 0, 0, 9));
        due("BAD, CAST", -1, x -> x.retrace(0, 0, 1, 0, 0));
        due("BAD, INDEX", -1, x -> x.retrace(0, 0, 0, -1, 9));
        due("BAD, INDEX", -1, x -> x.retrace(-1, 0, 0, 26, 1));
        due("BAD, NOT", -1, x -> x.retrace(8, 0, 0, 0, 0));
        due("BAD, NOT", -1, x -> x.retrace(24, 1, 1, 2, 1));
        due("NULL, INDEX", -11, x -> x.retrace(0, 3, 0, -1, 1));
        due("NULL, NOT", -11, x -> x.retrace(8, 3, 0, 0, 1));
        due("CAST, INDEX", -12, x -> x.retrace(0, 1, 0, 3, 1));
        due("CAST, NOT", -12, x -> x.retrace(8, 1, 0, 0, 1));
        due("CAST, NOT", -12, x -> x.retrace(0, 1, 0, 2, 1));
        due("INDEX, NOT", -13, x -> x.retrace(8, 1, 1, 3, 1));
        due("INDEX, NOT", -13, x -> x.retrace(8, 1, 1, -1, 1));
        due("INDEX, NOT", -13, x -> x.retrace(0, 1, 1, 2, 2));
        due("NOT, no code", -2, x -> x.retrace(8, 1, 1, 0, 1));
        due("NOT, no point", -2, x -> x.retrace(0, 1, 1, 2, 1));
        due("NOT, both", -2, x -> x.retrace(8, 1, 1, 2, 1));
    }

    private static List<Refused> refusedCalls() {
        int chosen = prepared().count(0);
        List<Refused> calls = new ArrayList<>();
        calls.add(new Refused("word(-1, 0)", -1, x -> x.word(-1, 0)));
        calls.add(new Refused("word(0, 7)", -1, x -> x.word(0, 7)));
        calls.add(new Refused("block(1, 759)", -1, x -> x.block(1, 759)));
        calls.add(new Refused("complete(-1)", -1, x -> x.complete(-1)));
        calls.add(new Refused("complete(15)", -2, x -> x.complete(15)));
        calls.add(new Refused("sextet(15, 6)", -1, x -> x.sextet(15, 6)));
        calls.add(new Refused("sextet(7, 0)", -2, x -> x.sextet(7, 0)));
        calls.add(new Refused("both(-1, 15)", -1, x -> x.both(-1, 15)));
        calls.add(new Refused("both(15, 7)", -2, x -> x.both(15, 7)));
        calls.add(new Refused("met(0, 9)", -1, x -> x.met(0, 9)));
        calls.add(new Refused("move(5, 0)", -1, x -> x.move(5, 0)));
        calls.add(new Refused("told(0, 8)", -1, x -> x.told(0, 8)));
        calls.add(new Refused("letter(0, -1)", -1, x -> x.letter(0, -1)));
        calls.add(new Refused("letter(0, 999)", -4, x -> x.letter(0, 999)));
        calls.add(new Refused("sent(5, 0)", -1, x -> x.sent(5, 0)));
        calls.add(new Refused("type(31)", -1, x -> x.type(31)));
        calls.add(new Refused("type(127)", -1, x -> x.type(127)));
        calls.add(new Refused("read(4)", -1, x -> x.read(4)));
        calls.add(new Refused("read(-1)", -1, x -> x.read(-1)));
        calls.add(new Refused("group(16, 0)", -1, x -> x.group(16, 0)));
        calls.add(new Refused("group(9, 0)", -2, x -> x.group(9, 0)));
        calls.add(new Refused("held(0, 0, 3)", -1, x -> x.held(0, 0, 3)));
        calls.add(new Refused("held(9, 0, 0)", -2, x -> x.held(9, 0, 0)));
        calls.add(new Refused("held(1, 1, 2)", -2, x -> x.held(1, 1, 2)));
        calls.add(new Refused("holds(0, 5)", -1, x -> x.holds(0, 5)));
        calls.add(new Refused("holds(9, 0)", -2, x -> x.holds(9, 0)));
        calls.add(new Refused("choose(-1)", -1, x -> x.choose(-1)));
        calls.add(new Refused("choose(5279)", -2, x -> x.choose(5279)));
        calls.add(new Refused("choose(D)", -2, x -> x.choose(chosen)));
        calls.add(new Refused("hexad(-1)", -1, x -> x.hexad(-1)));
        calls.add(new Refused("hexad(0)", -2, x -> x.hexad(0)));
        calls.add(new Refused("turn(24, 0)", -1, x -> x.turn(24, 0)));
        calls.add(new Refused("turn(7, 7)", -2, x -> x.turn(7, 7)));
        calls.add(new Refused("pair(-1)", -1, x -> x.pair(-1)));
        calls.add(new Refused("pair(0)", -2, x -> x.pair(0)));
        calls.add(new Refused("drift(0)", -1, x -> x.drift(0)));
        calls.add(new Refused("drift(41)", -1, x -> x.drift(41)));
        calls.add(new Refused("seed(-1)", -1, x -> x.seed(-1)));
        calls.add(new Refused("count(4)", -1, x -> x.count(4)));
        addRefusedSheets(calls);
        return calls;
    }

    private static void addRefusedSheets(List<Refused> calls) {
        calls.add(new Refused("retrace(16, 1, 1, 0, 1)", -1, x -> x.retrace(16, 1, 1, 0, 1)));
        calls.add(new Refused("retrace(1, 3, 0, 0, 1)", -11, x -> x.retrace(1, 3, 0, 0, 1)));
        calls.add(new Refused("retrace(1, 1, 0, 0, 1)", -12, x -> x.retrace(1, 1, 0, 0, 1)));
        calls.add(new Refused("retrace(1, 1, 1, 3, 1)", -13, x -> x.retrace(1, 1, 1, 3, 1)));
        calls.add(new Refused("retrace(9, 1, 1, 0, 1)", -2, x -> x.retrace(9, 1, 1, 0, 1)));
        calls.add(new Refused("retrace(1, 1, 1, 0, 2)", -2, x -> x.retrace(1, 1, 1, 0, 2)));
        calls.add(new Refused("retrace() without an element", 0, x -> x.retrace(0, 1, 1, 0, 1)));
        calls.add(new Refused("film(5, 0, 0, 0)", -1, x -> x.film(5, 0, 0, 0)));
        calls.add(new Refused("film(0, 3, 0, 0)", -11, x -> x.film(0, 3, 0, 0)));
        calls.add(new Refused("film(0, 1, 0, 0)", -12, x -> x.film(0, 1, 0, 0)));
        calls.add(new Refused("film(0, 0, 0, 3)", -13, x -> x.film(0, 0, 0, 3)));
        calls.add(new Refused("film(0, 1, 1, 0)", -13, x -> x.film(0, 1, 1, 0)));
        calls.add(new Refused("film(0, 0, 0, -1)", -13, x -> x.film(0, 0, 0, -1)));
        calls.add(new Refused("sheet(4, 0, 1)", -1, x -> x.sheet(4, 0, 1)));
        calls.add(new Refused("sheet(0, 4, 1)", -1, x -> x.sheet(0, 4, 1)));
        calls.add(new Refused("sheet(0, 0, 33)", -1, x -> x.sheet(0, 0, 33)));
        calls.add(new Refused("sheet(3, 0, 33)", -1, x -> x.sheet(3, 0, 33)));
        calls.add(new Refused("sheet(0, 0, -1)", -14, x -> x.sheet(0, 0, -1)));
        calls.add(new Refused("sheet(3, 0, -1)", -14, x -> x.sheet(3, 0, -1)));
        calls.add(new Refused("drop(4)", -1, x -> x.drop(4)));
        calls.add(new Refused("drop(3)", -11, x -> x.drop(3)));
        calls.add(new Refused("item(4, 0, 0, 1)", -1, x -> x.item(4, 0, 0, 1L)));
        calls.add(new Refused("item(0, 4, 0, 1)", -1, x -> x.item(0, 4, 0, 1L)));
        calls.add(new Refused("item(3, 0, 0, 1)", -11, x -> x.item(3, 0, 0, 1L)));
        calls.add(new Refused("item(0, 1, 0, 1)", -12, x -> x.item(0, 1, 0, 1L)));
        calls.add(new Refused("item(0, 0, 26, 1)", -13, x -> x.item(0, 0, 26, 1L)));
        calls.add(new Refused("item(0, 0, -1, 1)", -13, x -> x.item(0, 0, -1, 1L)));
        calls.add(new Refused("copy(4, 0, 0, 0, 1)", -1, x -> x.copy(4, 0, 0, 0, 1)));
        calls.add(new Refused("copy(3, 0, 0, 0, 1)", -11, x -> x.copy(3, 0, 0, 0, 1)));
        calls.add(new Refused("copy(0, 0, 3, 0, 1)", -11, x -> x.copy(0, 0, 3, 0, 1)));
        calls.add(new Refused("copy(0, 2, 1, 0, 1)", -12, x -> x.copy(0, 2, 1, 0, 1)));
        calls.add(new Refused("copy(0, 2, 0, 25, 2)", -13, x -> x.copy(0, 2, 0, 25, 2)));
        calls.add(new Refused("copy(0, 25, 0, 0, 2)", -13, x -> x.copy(0, 25, 0, 0, 2)));
        calls.add(new Refused("copy(0, 2, 0, 0, -1)", -13, x -> x.copy(0, 2, 0, 0, -1)));
    }

    private void changesNothing() {
        b.described("A call that returns an error changes nothing, but read() as it says.");
        List<Integer> due = stateOf(withTape());
        for (Refused refused : refusedCalls()) {
            Bench x = withTape();
            b.due(refused.text(), refused.call().on(x), refused.due());
            b.holds("all is as before " + refused.text(), stateOf(x).equals(due));
        }
        Bench read = withTape();
        b.due("read() with an error", read.read(0), -26);
        b.holds("read() empties the tape, and nothing else", stateOf(read).equals(stateOf(prepared())));
        Bench full = prepared().types("same*same" + " ".repeat(91));
        Bench more = prepared().types("same*same" + " ".repeat(91));
        b.due("type() with a full tape", more.type('('), -3);
        b.due("it is as before", more.read(1), full.read(1));
        b.holds("and all others", stateOf(more).equals(stateOf(full)));
        b.holds("what is compared can differ", !stateOf(prepared()).equals(due));
    }

    private void noSuchThing() {
        b.described("NONE (-4) is no error; it stands for \"no such thing\" and is returned only if no error applies.");
        Bench x = new Bench();
        b.due("no word", x.word(1, 1), -4);
        b.due("no set", x.word(-1, 1), -1);
        b.due("no set", x.word(ALL + 1, 1), -1);
        b.due("no index", x.letter(0, 60), -4);
        b.due("no permutation", x.letter(5, 60), -1);
        b.due("no change", x.undo(), -4);
        b.due("nothing saved", x.restore(), -4);
        List<Integer> due = stateOf(new Bench());
        b.holds("nothing changes by NONE", stateOf(x).equals(due));
    }

    private void fromZero() {
        b.described("Everything is numbered from 0.");
        Bench x = new Bench();
        b.due("word 0", x.block(0, 0), 0);
        b.due("octad 0", x.block(1, 0), 5279);
        b.due("dodecad 0", x.block(2, 0), 28637);
        b.due("tetrad 0", x.sextet(15, 0), 15);
        b.due("permutation 0, point 0", x.move(0, 0), 1);
        b.due("character 0", x.letter(0, 0), '(');
        b.due("sheet 0, lane 0", x.sheet(0, 0, 1), 1);
        b.due("element 0", x.item(0, 0, 0, 0L), 1);
        b.due("element 1 is not there", x.item(0, 0, 1, 0L), -13);
        b.due("error position 0", x.read(0), -20);
        b.due("the number 0 of the empty word", x.word(0, 1), 0);
    }
}
