import java.util.HashSet;
import java.util.List;
import java.util.Set;

/**
 * Keeps account of which pieces of the document have a test: each test says first which pieces it is
 * for, in the document's own words.
 */
final class Boundaries {
    static final int MIN = Integer.MIN_VALUE;
    static final int MAX = Integer.MAX_VALUE;
    static final int ALL = 16777215;
    /** Basis word 0. */
    static final int D = 16436384;
    static final int M24 = 244823040;

    interface Call {
        int on(Bench x);
    }

    private final Check check;
    private final Document document = new Document();
    private final Set<String> tested = new HashSet<>();
    private String title = "";
    private int answers = 1;

    Boundaries(Check check) {
        this.check = check;
    }

    /** What follows tests these sentences that all methods share. */
    void described(String... pieces) {
        begin("description", document.description(), pieces);
    }

    /** What follows tests these sentences of a promise. */
    void promised(int n, String... pieces) {
        begin("promise " + n, document.promise(n), pieces);
    }

    private void begin(String place, List<String> due, String[] pieces) {
        finish();
        for (String piece : pieces) {
            check.due(place + " says: " + piece, due.contains(piece) ? 1 : 0, 1);
            tested.add(place + ": " + piece);
        }
        title = place + " [" + pieces[0] + "] ";
    }

    private void finish() {
        check.due("a test of " + title + "asks something", answers > 0 ? 1 : 0, 1);
        answers = 0;
    }

    void due(String call, long got, long want) {
        answers++;
        check.due(title + call, got, want);
    }

    void holds(String what, boolean isSo) {
        due(what, isSo ? 1 : 0, 1);
    }

    /** A row of arguments just outside of first to last, and far outside. */
    static int[] outside(int first, int last) {
        return new int[] {first - 1, last + 1, MIN, MAX};
    }

    /** The call on a new object answers this for each of these arguments. */
    void dueForEach(String name, int[] arguments, int want, Argument call) {
        for (int argument : arguments) {
            due(name + " of " + argument, call.on(new Bench(), argument), want);
        }
    }

    interface Argument {
        int on(Bench x, int argument);
    }

    /** Fails for each piece of the document that neither has a test nor is among those without a boundary. */
    void end(Set<String> without) {
        finish();
        reportMissing("description", document.description(), without);
        for (int n = 1; n <= Document.PROMISES; n++) {
            reportMissing("promise " + n, document.promise(n), without);
        }
    }

    private void reportMissing(String place, List<String> pieces, Set<String> without) {
        for (String piece : pieces) {
            boolean isTested = tested.contains(place + ": " + piece);
            check.due("a test of " + place + ": " + piece, isTested || without.contains(piece) ? 1 : 0, 1);
        }
    }
}
