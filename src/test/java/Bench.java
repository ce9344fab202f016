/** An object with its calls counted: the document promises nothing about one after its 512th call. */
final class Bench {
    private static final int MOST_CALLS = 512;

    private final EightBlocks blocks = new EightBlocks();
    private int calls;

    /** Types the characters of a text. */
    Bench types(String text) {
        for (int k = 0; k < text.length(); k++) {
            type(text.charAt(k));
        }
        return this;
    }

    /** Types a text and reads it into a permutation. */
    int reads(int m, String text) {
        return types(text).read(m);
    }

    /** Where the points go by a permutation, told by five calls: each point is in another choice of the five sets. */
    int[] row(int m) {
        int[] sources = new int[24];
        for (int k = 0; k < 5; k++) {
            int set = 0;
            for (int p = 0; p < 24; p++) {
                set |= (p >> k & 1) << p;
            }
            int image = sent(m, set);
            for (int q = 0; q < 24; q++) {
                sources[q] |= (image >> q & 1) << k;
            }
        }
        int[] row = new int[24];
        for (int q = 0; q < 24; q++) {
            row[sources[q] % 24] = q;
        }
        return row;
    }

    int calls() {
        return calls;
    }

    /** A new object if this one has few calls left: for many calls that do not depend on earlier ones. */
    Bench renewed() {
        return calls > MOST_CALLS - 50 ? new Bench() : this;
    }

    private EightBlocks next() {
        calls++;
        if (calls > MOST_CALLS) {
            throw new IllegalStateException("a test makes more than 512 calls on an object");
        }
        return blocks;
    }

    int word(int set, int what) {
        return next().word(set, what);
    }

    int block(int what, int k) {
        return next().block(what, k);
    }

    int complete(int set) {
        return next().complete(set);
    }

    int sextet(int set, int k) {
        return next().sextet(set, k);
    }

    int both(int one, int other) {
        return next().both(one, other);
    }

    int met(int set, int k) {
        return next().met(set, k);
    }

    int move(int m, int p) {
        return next().move(m, p);
    }

    int told(int m, int what) {
        return next().told(m, what);
    }

    int letter(int m, int k) {
        return next().letter(m, k);
    }

    int sent(int m, int set) {
        return next().sent(m, set);
    }

    int type(int letter) {
        return next().type(letter);
    }

    int read(int m) {
        return next().read(m);
    }

    int group(int moves, int what) {
        return next().group(moves, what);
    }

    int held(int moves, int set, int what) {
        return next().held(moves, set, what);
    }

    int holds(int moves, int m) {
        return next().holds(moves, m);
    }

    int choose(int set) {
        return next().choose(set);
    }

    int hexad(int set) {
        return next().hexad(set);
    }

    int turn(int p, int q) {
        return next().turn(p, q);
    }

    int pair(int set) {
        return next().pair(set);
    }

    int drift(int n) {
        return next().drift(n);
    }

    int undo() {
        return next().undo();
    }

    int seed(int v) {
        return next().seed(v);
    }

    int count(int what) {
        return next().count(what);
    }

    int image() {
        return next().image();
    }

    int restore() {
        return next().restore();
    }

    int retrace(int moves, int sheet, int lane, int i, int n) {
        return next().retrace(moves, sheet, lane, i, n);
    }

    int film(int m, int sheet, int lane, int i) {
        return next().film(m, sheet, lane, i);
    }

    int sheet(int sheet, int lane, int n) {
        return next().sheet(sheet, lane, n);
    }

    int drop(int sheet) {
        return next().drop(sheet);
    }

    int item(int sheet, int lane, int i, long v) {
        return next().item(sheet, lane, i, v);
    }

    int copy(int from, int i, int to, int j, int n) {
        return next().copy(from, i, to, j, n);
    }
}
