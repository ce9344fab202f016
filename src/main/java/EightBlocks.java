import java.util.Arrays;

/**
 * A workbench for the extended binary Golay code, the permutations that preserve it, the groups that
 * they generate, and the Steiner system S(5, 6, 12) within a dodecad.
 */
public final class EightBlocks {
    public static final int BAD = -1, NOT = -2, FULL = -3, NONE = -4, NULL = -11, CAST = -12, INDEX = -13, SIZE = -14;

    private static final int POINTS = 24;
    private static final int ALL = 16777215;
    private static final int MOVES = 5;
    private static final int FOUND = 4;
    private static final int OCTADS = 759;
    private static final int DODECADS = 2576;

    private final Golay code;
    private final Chain chain;
    private final Orbits orbits;
    private final History live;
    private final History saved;
    private final Tape tape;
    private final Sheets sheets;
    private final Cycles cycles;
    private final int[] wanted;
    private final int[] spare;
    private boolean isSaved;

    public EightBlocks() {
        int[][] named = new int[MOVES][POINTS];
        Moves.fillNamed(named);
        code = new Golay();
        chain = new Chain();
        orbits = new Orbits();
        live = new History();
        saved = new History();
        tape = new Tape(named);
        sheets = new Sheets();
        cycles = new Cycles();
        wanted = new int[POINTS];
        spare = new int[POINTS];
        for (int m = 0; m < MOVES; m++) {
            Moves.assign(live.now.moves[m], named[m]);
        }
        live.now.chosen = code.wordOf(1);
        live.now.random = 1;
    }

    // ---- the code

    public int word(int set, int what) {
        if (isNoSet(set) || isOutside(what, 7)) {
            return BAD;
        }
        switch (what) {
            case 0:
                return Integer.bitCount(set);
            case 1:
                return code.isWord(set) ? code.numberOf(set) : NONE;
            case 2:
                return code.distance(set);
            case 3:
                return code.distance(set) == Golay.FARTHEST ? Golay.TETRADS : 1;
            case 4:
                return code.lowestNearest(set);
            case 5:
                return code.octadsInside(set);
            default:
                return code.octadsAround(set);
        }
    }

    public int block(int what, int k) {
        if (what == 0 && !isOutside(k, Golay.WORDS)) {
            return code.wordOf(k);
        }
        if (what == 1 && !isOutside(k, OCTADS)) {
            return code.octads[k];
        }
        if (what == 2 && !isOutside(k, DODECADS)) {
            return code.dodecads[k];
        }
        return BAD;
    }

    public int complete(int set) {
        if (isNoSet(set)) {
            return BAD;
        }
        return Integer.bitCount(set) == 5 ? code.octadWith(set) : NOT;
    }

    public int sextet(int set, int k) {
        if (isNoSet(set) || isOutside(k, Golay.TETRADS)) {
            return BAD;
        }
        return Integer.bitCount(set) == 4 ? code.tetrad(set, k) : NOT;
    }

    public int both(int one, int other) {
        if (isNoSet(one) || isNoSet(other)) {
            return BAD;
        }
        if (Integer.bitCount(one) != 4 || Integer.bitCount(other) != 4) {
            return NOT;
        }
        return code.sharedOctads(one, other);
    }

    public int met(int set, int k) {
        if (isNoSet(set) || isOutside(k, 9)) {
            return BAD;
        }
        return code.octadsMeeting(set, k);
    }

    // ---- permutations

    public int move(int m, int p) {
        if (isOutside(m, MOVES) || isOutside(p, POINTS)) {
            return BAD;
        }
        return live.now.moves[m][p];
    }

    public int told(int m, int what) {
        if (isOutside(m, MOVES) || isOutside(what, 8)) {
            return BAD;
        }
        int[] move = live.now.moves[m];
        switch (what) {
            case 0:
                return code.isPreservedBy(move) ? 1 : 0;
            case 1:
                return Moves.fixedPoints(move);
            case 2:
                return Moves.cycleCount(move);
            case 3:
                return Moves.order(move);
            case 4:
                return (POINTS - Moves.cycleCount(move)) % 2;
            case 5:
                return code.octadsFixedBy(move);
            case 6:
                return whereChosenGoes(move);
            default:
                return cycles.write(move);
        }
    }

    public int letter(int m, int k) {
        if (isOutside(m, MOVES) || k < 0) {
            return BAD;
        }
        cycles.write(live.now.moves[m]);
        return cycles.letterAt(k);
    }

    public int sent(int m, int set) {
        if (isOutside(m, MOVES) || isNoSet(set)) {
            return BAD;
        }
        return Moves.imageOf(live.now.moves[m], set);
    }

    public int type(int letter) {
        if (letter < 32 || letter > 126) {
            return BAD;
        }
        return tape.append(letter);
    }

    public int read(int m) {
        if (isOutside(m, FOUND)) {
            return BAD;
        }
        boolean good = tape.evaluate(live.now.moves);
        tape.clear();
        if (!good) {
            return -20 - tape.faultPosition();
        }
        live.keep();
        int[] move = live.now.moves[m];
        int elsewhere = Moves.differences(move, tape.value());
        Moves.assign(move, tape.value());
        return elsewhere;
    }

    // ---- groups

    public int group(int moves, int what) {
        if (isOutside(moves, 16) || isOutside(what, 5)) {
            return BAD;
        }
        if (!preserveCode(moves)) {
            return NOT;
        }
        switch (what) {
            case 0:
                buildChain(moves, 0);
                return chain.orderFrom(0);
            case 1:
                findOrbits(moves, Orbits.OF_POINTS);
                return orbits.number();
            case 2:
                findOrbits(moves, Orbits.OF_WORDS);
                return orbits.numberOfWeight(code.words, 8);
            case 3:
                findOrbits(moves, Orbits.OF_WORDS);
                return orbits.numberOfWeight(code.words, 12);
            default:
                findOrbits(moves, Orbits.OF_RESTS);
                return orbits.numberOfWeight(code.leaders, Golay.FARTHEST);
        }
    }

    public int held(int moves, int set, int what) {
        if (isOutside(moves, 16) || isNoSet(set) || isOutside(what, 3)) {
            return BAD;
        }
        if (!preserveCode(moves) || what == 2 && !code.isWord(set)) {
            return NOT;
        }
        switch (what) {
            case 0:
                return reachedFrom(moves, set);
            case 1:
                buildChain(moves, set);
                return chain.orderFrom(Integer.bitCount(set));
            default:
                buildChain(moves, 0);
                findOrbits(moves, Orbits.OF_WORDS);
                return chain.orderFrom(0) / Math.max(1, orbits.sizeOf(Golay.place(set)));
        }
    }

    public int holds(int moves, int m) {
        if (isOutside(moves, 16) || isOutside(m, MOVES)) {
            return BAD;
        }
        if (!preserveCode(moves)) {
            return NOT;
        }
        buildChain(moves, 0);
        return chain.contains(0, live.now.moves[m]) ? 1 : 0;
    }

    // ---- the small system

    public int choose(int set) {
        if (isNoSet(set)) {
            return BAD;
        }
        int previous = live.now.chosen;
        if (set == previous || Integer.bitCount(set) != 12 || !code.isWord(set)) {
            return NOT;
        }
        live.keep();
        live.now.chosen = set;
        return previous;
    }

    public int hexad(int set) {
        if (isNoSet(set)) {
            return BAD;
        }
        int chosen = live.now.chosen;
        if (Integer.bitCount(set) != 5 || (set & ~chosen) != 0) {
            return NOT;
        }
        return code.octadWith(set) & chosen;
    }

    public int turn(int p, int q) {
        if (isOutside(p, POINTS) || isOutside(q, POINTS)) {
            return BAD;
        }
        int chosen = live.now.chosen;
        int two = 1 << p | 1 << q;
        if (p == q || (two & chosen) != 0) {
            return NOT;
        }
        int lowest = chosen & -chosen;
        for (int octad : code.octads) {
            if ((octad & ~chosen) == two && (octad & lowest) != 0) {
                return octad & chosen;
            }
        }
        return NONE;
    }

    public int pair(int set) {
        if (isNoSet(set)) {
            return BAD;
        }
        if (Integer.bitCount(set) != 6) {
            return NOT;
        }
        int lowest = set & -set;
        int octad = code.octadWith(set ^ lowest);
        return (octad & live.now.chosen) == set ? octad ^ set : NOT;
    }

    // ---- changes

    public int drift(int n) {
        if (n < 1 || n > 40) {
            return BAD;
        }
        for (int k = 0; k < n; k++) {
            live.keep();
            turnAtRandom(live.now);
        }
        return live.now.chosen;
    }

    public int undo() {
        return live.takeBack();
    }

    public int seed(int v) {
        if (v < 0) {
            return BAD;
        }
        int previous = live.now.random;
        live.now.random = v;
        return previous;
    }

    public int count(int what) {
        switch (what) {
            case 0:
                return live.now.chosen;
            case 1:
                return live.size;
            case 2:
                return preservingMoves();
            case 3:
                return isSaved ? 1 : 0;
            default:
                return BAD;
        }
    }

    public int image() {
        saved.become(live);
        isSaved = true;
        return 1;
    }

    public int restore() {
        if (!isSaved) {
            return NONE;
        }
        live.become(saved);
        return 1;
    }

    // ---- sheets

    public int retrace(int moves, int sheet, int lane, int i, int n) {
        if (isOutside(moves, 16) || isNoLane(sheet, lane) || n < 1 || n > 8) {
            return BAD;
        }
        int fault = sheets.fault(sheet, lane, i, 2 * n);
        if (fault != 0) {
            return fault;
        }
        if (!preserveCode(moves) || !sheets.holdPoints(sheet, i, 2 * n)) {
            return NOT;
        }
        Arrays.fill(wanted, NONE);
        int given = 0;
        for (int k = i; k < i + 2 * n; k += 2) {
            int from = sheets.pointAt(sheet, k);
            int to = sheets.pointAt(sheet, k + 1);
            if (from == NONE || to == NONE) {
                return NOT;
            }
            if (wanted[from] != NONE && wanted[from] != to) {
                return 0;
            }
            wanted[from] = to;
            given |= 1 << from;
        }
        buildChain(moves, given);
        if (!chain.findLowest(wanted, spare)) {
            return 0;
        }
        Moves.assign(live.now.moves[FOUND], spare);
        return chain.orderFrom(Integer.bitCount(given));
    }

    public int film(int m, int sheet, int lane, int i) {
        if (isOutside(m, MOVES) || isNoLane(sheet, lane)) {
            return BAD;
        }
        int fault = sheets.fault(sheet, lane, i, POINTS);
        if (fault != 0) {
            return fault;
        }
        for (int p = 0; p < POINTS; p++) {
            sheets.put(sheet, i + p, live.now.moves[m][p]);
        }
        return POINTS;
    }

    public int sheet(int sheet, int lane, int n) {
        if (isNoLane(sheet, lane) || n > Sheets.LONGEST) {
            return BAD;
        }
        if (n < 0) {
            return SIZE;
        }
        sheets.create(sheet, lane, n);
        return n;
    }

    public int drop(int sheet) {
        if (isOutside(sheet, Sheets.NUMBER)) {
            return BAD;
        }
        return sheets.remove(sheet);
    }

    public int item(int sheet, int lane, int i, long v) {
        if (isNoLane(sheet, lane)) {
            return BAD;
        }
        int fault = sheets.fault(sheet, lane, i, 1);
        if (fault != 0) {
            return fault;
        }
        sheets.put(sheet, i, v);
        return 1;
    }

    public int copy(int from, int i, int to, int j, int n) {
        if (isOutside(from, Sheets.NUMBER) || isOutside(to, Sheets.NUMBER)) {
            return BAD;
        }
        return sheets.transfer(from, i, to, j, n);
    }

    // ---- what the methods share

    private static boolean isOutside(int value, int end) {
        return value < 0 || value >= end;
    }

    private static boolean isNoSet(int set) {
        return set < 0 || set > ALL;
    }

    private static boolean isNoLane(int sheet, int lane) {
        return isOutside(sheet, Sheets.NUMBER) || isOutside(lane, Sheets.LANES);
    }

    private int whereChosenGoes(int[] move) {
        int chosen = live.now.chosen;
        int image = Moves.imageOf(move, chosen);
        if (image == chosen) {
            return 1;
        }
        return image == (ALL ^ chosen) ? 2 : 0;
    }

    private int preservingMoves() {
        int preserving = 0;
        for (int m = 0; m < MOVES; m++) {
            if (code.isPreservedBy(live.now.moves[m])) {
                preserving |= 1 << m;
            }
        }
        return preserving;
    }

    private boolean preserveCode(int moves) {
        return (moves & ~preservingMoves()) == 0;
    }

    private void buildChain(int moves, int first) {
        chain.begin(first);
        for (int m = 0; m < FOUND; m++) {
            if ((moves >> m & 1) == 1) {
                chain.include(live.now.moves[m]);
            }
        }
    }

    private void findOrbits(int moves, int kind) {
        orbits.begin(kind);
        for (int m = 0; m < FOUND; m++) {
            if ((moves >> m & 1) == 1) {
                orbits.joinBy(code, live.now.moves[m]);
            }
        }
    }

    private int reachedFrom(int moves, int set) {
        int reached = set;
        // Each round but the last adds a point.
        for (int round = 0; round < POINTS; round++) {
            for (int m = 0; m < FOUND; m++) {
                if ((moves >> m & 1) == 1) {
                    reached |= Moves.imageOf(live.now.moves[m], reached);
                }
            }
        }
        return reached;
    }

    private void turnAtRandom(State state) {
        state.random = (int) ((state.random * 1103515245L + 12345L) & 2147483647L);
        int x = state.random / 65536;
        int y = x / 8;
        if (x % 8 == 0) {
            state.chosen = code.dodecads[y % DODECADS];
            return;
        }
        // The permutation may be multiplied by itself, so a copy is.
        Moves.assign(spare, state.moves[x % 4]);
        Moves.follow(spare, state.moves[y % MOVES]);
        Moves.assign(state.moves[x % 4], spare);
    }

    /** Permutations, each a row in which the element p tells where point p goes. */
    private static final class Moves {
        // The points other than 0 and 23 that wild multiplies by 18: 1, 2, 3, 4, 6, 8, 9, 12, 13, 16 and 18.
        private static final int EIGHTEENFOLD =
            1 << 1 | 1 << 2 | 1 << 3 | 1 << 4 | 1 << 6 | 1 << 8 | 1 << 9 | 1 << 12 | 1 << 13 | 1 << 16 | 1 << 18;

        /** Fills in step, twice, over, wild and same. */
        static void fillNamed(int[][] named) {
            for (int m = 0; m < MOVES; m++) {
                makeSame(named[m]);
            }
            for (int p = 0; p < 23; p++) {
                named[0][p] = (p + 1) % 23;
                named[1][p] = 2 * p % 23;
                named[3][p] = ((EIGHTEENFOLD >> p & 1) == 1 ? 18 : 9) * p * p * p % 23;
                for (int q = 0; q < 23; q++) {
                    if (p * q % 23 == 22) {
                        named[2][p] = q;
                    }
                }
            }
            named[2][0] = 23;
            named[2][23] = 0;
        }

        static int to(int[] move, int p) {
            return p >= 0 && p < move.length ? move[p] : p;
        }

        static void makeSame(int[] move) {
            for (int p = 0; p < move.length; p++) {
                move[p] = p;
            }
        }

        static void assign(int[] move, int[] other) {
            for (int p = 0; p < move.length && p < other.length; p++) {
                move[p] = other[p];
            }
        }

        /** Lets the other one be applied after the move. They must be different rows. */
        static void follow(int[] move, int[] other) {
            for (int p = 0; p < move.length; p++) {
                move[p] = to(other, move[p]);
            }
        }

        /** Sets the result to the one that first applies the inverse of undone, and then done. */
        static void combine(int[] undone, int[] done, int[] result) {
            for (int p = 0; p < undone.length && p < done.length; p++) {
                int q = undone[p];
                if (q >= 0 && q < result.length) {
                    result[q] = done[p];
                }
            }
        }

        static void invert(int[] move, int[] result) {
            for (int p = 0; p < move.length; p++) {
                int q = move[p];
                if (q >= 0 && q < result.length) {
                    result[q] = p;
                }
            }
        }

        static int sourceOf(int[] move, int target) {
            for (int p = 0; p < move.length; p++) {
                if (move[p] == target) {
                    return p;
                }
            }
            return NONE;
        }

        static int imageOf(int[] move, int set) {
            int image = 0;
            for (int p = 0; p < move.length; p++) {
                image |= (set >> p & 1) << move[p];
            }
            return image;
        }

        static int differences(int[] one, int[] other) {
            int different = 0;
            for (int p = 0; p < one.length && p < other.length; p++) {
                if (one[p] != other[p]) {
                    different++;
                }
            }
            return different;
        }

        static int fixedPoints(int[] move) {
            int fixed = 0;
            for (int p = 0; p < move.length; p++) {
                if (move[p] == p) {
                    fixed++;
                }
            }
            return fixed;
        }

        static int cycleLength(int[] move, int p) {
            int length = 1;
            for (int q = to(move, p); q != p && length < POINTS; q = to(move, q)) {
                length++;
            }
            return length;
        }

        static boolean isLowestInCycle(int[] move, int p) {
            int q = to(move, p);
            for (int k = 0; k < POINTS && q > p; k++) {
                q = to(move, q);
            }
            return q == p;
        }

        static int cycleCount(int[] move) {
            int number = 0;
            for (int p = 0; p < move.length; p++) {
                if (isLowestInCycle(move, p)) {
                    number++;
                }
            }
            return number;
        }

        static int order(int[] move) {
            int order = 1;
            for (int p = 0; p < move.length; p++) {
                order = commonMultiple(order, cycleLength(move, p));
            }
            return order;
        }

        private static int commonMultiple(int number, int length) {
            for (int k = 1; k < length; k++) {
                if (number * k % length == 0) {
                    return number * k;
                }
            }
            return number * length;
        }
    }

    /**
     * The code. The upper twelve points of a word tell the word, and all 4096 upper halves occur; so the
     * upper half of a word is its place among the words in ascending order. Any other set becomes a word
     * of the same upper half by changes of lower points alone: these are its rest, and the sets with
     * the same rest are those that differ by a word.
     */
    private static final class Golay {
        static final int WORDS = 4096;
        static final int FARTHEST = 4;
        static final int TETRADS = 6;
        private static final int DIMENSION = 12;
        private static final int[] STARTS = {5, 7, 10, 11, 14, 15, 17, 19, 20, 21, 22};

        final int[] words = new int[WORDS];
        final int[] octads = new int[OCTADS];
        final int[] dodecads = new int[DODECADS];
        /** By rests: the smallest set with this rest; of the six tetrads of a sextet the one with point 0. */
        final int[] leaders = new int[WORDS];
        private final int[] basis = new int[DIMENSION];
        private final int[] numbers = new int[WORDS];

        Golay() {
            fillBasis();
            for (int n = 0; n < WORDS; n++) {
                int word = wordOf(n);
                words[place(word)] = word;
                numbers[place(word)] = n;
            }
            fillWordsOfWeight(8, octads);
            fillWordsOfWeight(12, dodecads);
            fillLeaders();
        }

        private void fillBasis() {
            for (int k = 0; k < DIMENSION; k++) {
                basis[k] = 1 << 23;
                for (int start : STARTS) {
                    basis[k] |= 1 << Math.floorMod(start - k, 23);
                }
            }
        }

        private void fillWordsOfWeight(int weight, int[] row) {
            int filled = 0;
            for (int word : words) {
                if (Integer.bitCount(word) == weight && filled < row.length) {
                    row[filled] = word;
                    filled++;
                }
            }
        }

        private void fillLeaders() {
            for (int a = 0; a < POINTS; a++) {
                for (int b = a; b < POINTS; b++) {
                    for (int c = b; c < POINTS; c++) {
                        int set = 1 << a | 1 << b | 1 << c;
                        leaders[rest(set)] = set;
                        if (Integer.bitCount(set) == 3) {
                            leaders[rest(set | 1)] = set | 1;
                        }
                    }
                }
            }
        }

        static int place(int set) {
            return set >> 12 & 4095;
        }

        int rest(int set) {
            return (set ^ words[place(set)]) & 4095;
        }

        int wordOf(int n) {
            int word = 0;
            for (int k = 0; k < DIMENSION; k++) {
                if ((n >> k & 1) == 1) {
                    word ^= basis[k];
                }
            }
            return word;
        }

        boolean isWord(int set) {
            return words[place(set)] == set;
        }

        int numberOf(int word) {
            return numbers[place(word)];
        }

        int distance(int set) {
            return Integer.bitCount(leaders[rest(set)]);
        }

        int lowestNearest(int set) {
            int leader = leaders[rest(set)];
            int lowest = set ^ leader;
            if (Integer.bitCount(leader) == FARTHEST) {
                for (int k = 0; k < TETRADS; k++) {
                    lowest = Math.min(lowest, set ^ tetrad(leader, k));
                }
            }
            return lowest;
        }

        int octadsInside(int set) {
            int number = 0;
            for (int octad : octads) {
                if ((octad & ~set) == 0) {
                    number++;
                }
            }
            return number;
        }

        int octadsAround(int set) {
            int number = 0;
            for (int octad : octads) {
                if ((set & ~octad) == 0) {
                    number++;
                }
            }
            return number;
        }

        int octadsMeeting(int set, int k) {
            int number = 0;
            for (int octad : octads) {
                if (Integer.bitCount(octad & set) == k) {
                    number++;
                }
            }
            return number;
        }

        int octadsFixedBy(int[] move) {
            int number = 0;
            for (int octad : octads) {
                if (Moves.imageOf(move, octad) == octad) {
                    number++;
                }
            }
            return number;
        }

        boolean isPreservedBy(int[] move) {
            for (int word : basis) {
                if (!isWord(Moves.imageOf(move, word))) {
                    return false;
                }
            }
            return true;
        }

        int octadWith(int five) {
            return five ^ leaders[rest(five)];
        }

        private int tetradWith(int four, int point) {
            return (four & point) != 0 ? four : four ^ octadWith(four | point);
        }

        int tetrad(int four, int k) {
            int covered = 0;
            int latest = 0;
            for (int done = 0; done <= k && done < TETRADS; done++) {
                int open = ALL & ~covered;
                latest = tetradWith(four, open & -open);
                covered |= latest;
            }
            return latest;
        }

        private boolean isUnionOfTetrads(int octad, int four) {
            for (int k = 0; k < TETRADS; k++) {
                int tetrad = tetrad(four, k);
                int common = tetrad & octad;
                if (common != 0 && common != tetrad) {
                    return false;
                }
            }
            return true;
        }

        int sharedOctads(int one, int other) {
            int number = 0;
            for (int k = 0; k < TETRADS; k++) {
                for (int more = k + 1; more < TETRADS; more++) {
                    int octad = tetrad(one, k) | tetrad(one, more);
                    if (isUnionOfTetrads(octad, other)) {
                        number++;
                    }
                }
            }
            return number;
        }
    }

    /**
     * A group, as a chain of stabilizers: the elements of level k leave the first k points of the base
     * where they are. Each level is kept closed before an element is looked for in it (D. E. Knuth,
     * Efficient representation of perm groups), so each new generator of a level at least
     * doubles it; the whole of M24 has fewer than 2 to the power of 28 elements.
     */
    private static final class Chain {
        private static final int MOST_GENERATORS = 28;

        private final int[] base = new int[POINTS];
        private final int[] sizes = new int[POINTS];
        private final int[] reached = new int[POINTS];
        private final int[][] orbits = new int[POINTS][POINTS];
        /** In row level * 24 + q an element of the level that sends q to the base point. */
        private final int[][] backs = new int[POINTS * POINTS][POINTS];
        private final int[] generatorCounts = new int[POINTS];
        private final int[][] generators = new int[POINTS * MOST_GENERATORS][POINTS];
        private final int[][] products = new int[POINTS][POINTS];
        private final int[] probe = new int[POINTS];
        /** Stands for a row that is not there; no run comes to it. */
        private final int[] stray = new int[POINTS];

        /** Starts with the identity alone; the base begins with the points of a set. */
        void begin(int first) {
            int filled = 0;
            for (int k = 0; k < 2 * POINTS; k++) {
                int p = k % POINTS;
                boolean isFirst = (first >> p & 1) == 1;
                if (isFirst == (k < POINTS) && filled < POINTS) {
                    base[filled] = p;
                    filled++;
                }
            }
            for (int level = 0; level < POINTS; level++) {
                sizes[level] = 1;
                reached[level] = 1 << base[level];
                orbits[level][0] = base[level];
                generatorCounts[level] = 0;
                Moves.makeSame(back(level, base[level]));
            }
        }

        /** Makes the group the one that this permutation generates together with it. */
        void include(int[] move) {
            if (!contains(0, move)) {
                admit(0, move);
            }
        }

        /** Tells whether a permutation that leaves the base points before a level is in that level. */
        boolean contains(int level, int[] move) {
            Moves.assign(probe, move);
            for (int k = level; k < POINTS; k++) {
                int q = Moves.to(probe, base[k]);
                if (!isReached(k, q)) {
                    return false;
                }
                if (q != base[k]) {
                    Moves.follow(probe, back(k, q));
                }
            }
            return true;
        }

        int orderFrom(int level) {
            int order = 1;
            for (int k = level; k < POINTS; k++) {
                order *= sizes[k];
            }
            return order;
        }

        /**
         * Finds the element that sends each point of a beginning of the base to the wanted one, and each
         * other point in turn to the lowest one; tells whether there is one.
         */
        boolean findLowest(int[] wanted, int[] found) {
            Moves.makeSame(found);
            for (int level = 0; level < POINTS; level++) {
                int target = Moves.to(wanted, base[level]);
                int q = target == NONE ? lowestSource(level, found) : Moves.sourceOf(found, target);
                if (!isReached(level, q)) {
                    return false;
                }
                Moves.combine(back(level, q), found, probe);
                Moves.assign(found, probe);
            }
            return true;
        }

        private int lowestSource(int level, int[] found) {
            int lowest = base[level];
            for (int q = 0; q < POINTS; q++) {
                if (isReached(level, q) && Moves.to(found, q) < Moves.to(found, lowest)) {
                    lowest = q;
                }
            }
            return lowest;
        }

        private boolean isReached(int level, int q) {
            return !isOutside(q, POINTS) && (reached[level] >> q & 1) == 1;
        }

        private int[] back(int level, int q) {
            int row = level * POINTS + q;
            return isOutside(row, backs.length) ? stray : backs[row];
        }

        /** Adds a generator that is not in the level yet, and closes the level again. */
        private void admit(int level, int[] move) {
            if (level >= POINTS || generatorCounts[level] >= MOST_GENERATORS) {
                return;
            }
            int latest = generatorCounts[level];
            Moves.assign(generators[level * MOST_GENERATORS + latest], move);
            generatorCounts[level]++;
            int before = sizes[level];
            for (int a = 0; a < sizes[level] && a < POINTS; a++) {
                // The earlier points have met the earlier generators already.
                for (int b = a < before ? latest : 0; b <= latest; b++) {
                    int[] back = back(level, orbits[level][a]);
                    Moves.combine(back, generators[level * MOST_GENERATORS + b], products[level]);
                    settle(level, products[level]);
                }
            }
        }

        /** Sees to it that an element of the group of a level is found in the level. */
        private void settle(int level, int[] move) {
            int q = Moves.to(move, base[level]);
            if (isOutside(q, POINTS)) {
                return;
            }
            if (!isReached(level, q)) {
                reach(level, q, move);
                return;
            }
            Moves.follow(move, back(level, q));
            if (!contains(level + 1, move)) {
                admit(level + 1, move);
            }
        }

        private void reach(int level, int q, int[] move) {
            if (sizes[level] >= POINTS) {
                return;
            }
            orbits[level][sizes[level]] = q;
            sizes[level]++;
            reached[level] |= 1 << q;
            Moves.invert(move, back(level, q));
        }
    }

    /** The orbits of a group on points, on words by their places, or on rests: trees of parents. */
    private static final class Orbits {
        static final int OF_POINTS = 0;
        static final int OF_WORDS = 1;
        static final int OF_RESTS = 2;

        private final int[] parents = new int[Golay.WORDS];
        private final int[] goals = new int[Golay.WORDS];
        private int kind;
        private int size;

        /** Starts with an orbit for each item. */
        void begin(int ofKind) {
            kind = ofKind;
            size = kind == OF_POINTS ? POINTS : Golay.WORDS;
            for (int i = 0; i < size; i++) {
                parents[i] = i;
            }
        }

        /** Joins each item with the one to which a permutation sends it. */
        void joinBy(Golay code, int[] move) {
            if (kind == OF_POINTS) {
                Moves.assign(goals, move);
            } else {
                fillGoals(code, move);
            }
            for (int i = 0; i < size; i++) {
                join(i, goals[i]);
            }
        }

        /** Places and rests go linearly, so where the powers of two go tells where all go. */
        private void fillGoals(Golay code, int[] move) {
            goals[0] = 0;
            for (int i = 1; i < size; i++) {
                int unit = i & -i;
                goals[i] = i == unit ? goalOf(code, move, unit) : goals[i ^ unit] ^ goals[unit];
            }
        }

        private int goalOf(Golay code, int[] move, int item) {
            if (kind == OF_WORDS) {
                return Golay.place(Moves.imageOf(move, code.words[item]));
            }
            return code.rest(Moves.imageOf(move, item));
        }

        private void join(int one, int other) {
            int first = root(one);
            int second = root(other);
            if (isOutside(first, size) || isOutside(second, size)) {
                return;
            }
            parents[Math.max(first, second)] = Math.min(first, second);
        }

        private int root(int item) {
            int i = item;
            // Parents descend, so there are fewer steps than items.
            for (int step = 0; step < size && !isOutside(i, size) && parents[i] != i; step++) {
                int parent = parents[i];
                if (!isOutside(parent, size)) {
                    parents[i] = parents[parent];
                }
                i = parent;
            }
            return i;
        }

        int number() {
            int number = 0;
            for (int i = 0; i < size; i++) {
                if (parents[i] == i) {
                    number++;
                }
            }
            return number;
        }

        int numberOfWeight(int[] sets, int weight) {
            int number = 0;
            for (int i = 0; i < size && i < sets.length; i++) {
                if (parents[i] == i && Integer.bitCount(sets[i]) == weight) {
                    number++;
                }
            }
            return number;
        }

        int sizeOf(int item) {
            int root = root(item);
            int number = 0;
            for (int i = 0; i < size; i++) {
                if (root(i) == root) {
                    number++;
                }
            }
            return number;
        }
    }

    /** What a change can change. */
    private static final class State {
        final int[][] moves = new int[MOVES][POINTS];
        int chosen;
        int random;

        void become(State other) {
            for (int m = 0; m < MOVES; m++) {
                Moves.assign(moves[m], other.moves[m]);
            }
            chosen = other.chosen;
            random = other.random;
        }
    }

    /** A state, and the states before the latest changes. */
    private static final class History {
        private static final int LONGEST = 6;

        final State now = new State();
        private final State[] kept = new State[LONGEST];
        int size;

        History() {
            for (int k = 0; k < LONGEST; k++) {
                kept[k] = new State();
            }
        }

        void keep() {
            if (isOutside(size, LONGEST)) {
                forgetOldest();
            }
            kept[size].become(now);
            size++;
        }

        private void forgetOldest() {
            State oldest = kept[0];
            for (int k = 1; k < LONGEST; k++) {
                kept[k - 1] = kept[k];
            }
            kept[LONGEST - 1] = oldest;
            size = LONGEST - 1;
        }

        int takeBack() {
            if (size < 1 || size > LONGEST) {
                return NONE;
            }
            size--;
            now.become(kept[size]);
            return size;
        }

        void become(History other) {
            now.become(other.now);
            for (int k = 0; k < LONGEST; k++) {
                kept[k].become(other.kept[k]);
            }
            size = other.size;
        }
    }

    /** The text of a permutation. */
    private static final class Cycles {
        // Ten points of one digit and fourteen of two, a comma or a right parenthesis behind each point,
        // and at most twelve left parentheses.
        private static final int LONGEST = 38 + 24 + 12;

        private final int[] letters = new int[LONGEST];
        private int length;

        int write(int[] move) {
            length = 0;
            for (int p = 0; p < POINTS; p++) {
                if (Moves.to(move, p) != p && Moves.isLowestInCycle(move, p)) {
                    writeCycle(move, p);
                }
            }
            return length;
        }

        private void writeCycle(int[] move, int lowest) {
            int points = Moves.cycleLength(move, lowest);
            int p = lowest;
            for (int k = 0; k < points; k++) {
                append(k == 0 ? '(' : ',');
                if (p >= 10) {
                    append('0' + p / 10);
                }
                append('0' + p % 10);
                p = Moves.to(move, p);
            }
            append(')');
        }

        private void append(int letter) {
            if (length < LONGEST) {
                letters[length] = letter;
                length++;
            }
        }

        int letterAt(int k) {
            return k >= 0 && k < length && k < LONGEST ? letters[k] : NONE;
        }
    }

    /**
     * The tape and its reading. While it is read, the position stands at the first character that is not
     * yet found to be allowed; so it is the error position as soon as a part says that it fails.
     */
    private static final class Tape {
        private static final int LONGEST = 100;
        private static final int DEEPEST = 6;

        private final int[] letters = new int[LONGEST];
        private final int[][] named;
        private final int[][] totals = new int[DEEPEST + 1][POINTS];
        private final int[][] parts = new int[DEEPEST + 1][POINTS];
        private final int[] powered = new int[POINTS];
        private int[][] current;
        private int length;
        private int position;

        Tape(int[][] named) {
            this.named = named;
            this.current = named;
        }

        int append(int letter) {
            if (length >= LONGEST) {
                return FULL;
            }
            letters[length] = letter;
            length++;
            return length;
        }

        void clear() {
            length = 0;
        }

        int faultPosition() {
            return position;
        }

        /** The permutation that was read last. */
        int[] value() {
            return totals[0];
        }

        /** Reads the tape, with the names a to e for these permutations; tells whether it has no error. */
        boolean evaluate(int[][] moves) {
            current = moves;
            position = 0;
            return isProduct(0) && isAtEnd();
        }

        private boolean isProduct(int depth) {
            Moves.makeSame(totals[depth]);
            for (int factors = 0; factors < LONGEST; factors++) {
                if (!isFactor(depth)) {
                    return false;
                }
                Moves.follow(totals[depth], parts[depth]);
                if (!accept('*')) {
                    return true;
                }
            }
            return false;
        }

        private boolean isFactor(int depth) {
            boolean isGood;
            if (isNext('[')) {
                isGood = depth < DEEPEST && isBracket(depth);
            } else {
                isGood = accept('(') ? isCycle(parts[depth]) : isName(parts[depth]);
            }
            if (!isGood || !accept('^')) {
                return isGood;
            }
            boolean inverse = accept('-');
            int power = acceptPower();
            if (power < 0) {
                return false;
            }
            raise(parts[depth], power, inverse);
            return true;
        }

        private boolean isBracket(int depth) {
            if (!accept('[') || !isProduct(depth + 1) || !accept(']')) {
                return false;
            }
            Moves.assign(parts[depth], totals[depth + 1]);
            return true;
        }

        /** Reads a cycle behind its left parenthesis. */
        private boolean isCycle(int[] part) {
            Moves.makeSame(part);
            int first = acceptPoint(0);
            int latest = first;
            int used = 0;
            for (int points = 0; points < POINTS && !isOutside(latest, POINTS); points++) {
                if (accept(')')) {
                    part[latest] = first;
                    return true;
                }
                if (!accept(',')) {
                    return false;
                }
                used |= 1 << latest;
                int next = acceptPoint(used);
                if (next != NONE) {
                    part[latest] = next;
                }
                latest = next;
            }
            return false;
        }

        private boolean isName(int[] part) {
            int end = endOfRun('a', 'z');
            int k = nameUpTo(end);
            if (k == NONE) {
                return false;
            }
            Moves.assign(part, k < MOVES ? current[k] : named[k - MOVES]);
            position = end;
            return true;
        }

        /** The name that ends there, 0 to 4 for a to e, 5 and more for the constant ones, or NONE. */
        private int nameUpTo(int end) {
            for (int k = 0; k < 2 * MOVES; k++) {
                if (isWritten(nameOf(k), end)) {
                    return k;
                }
            }
            return NONE;
        }

        private static String nameOf(int k) {
            switch (k) {
                case 0:
                    return "a";
                case 1:
                    return "b";
                case 2:
                    return "c";
                case 3:
                    return "d";
                case 4:
                    return "e";
                case 5:
                    return "step";
                case 6:
                    return "twice";
                case 7:
                    return "over";
                case 8:
                    return "wild";
                default:
                    return "same";
            }
        }

        private boolean isWritten(String name, int end) {
            if (end - position != name.length()) {
                return false;
            }
            for (int k = 0; k < name.length() && position + k < length; k++) {
                if (letters[position + k] != name.charAt(k)) {
                    return false;
                }
            }
            return true;
        }

        private int acceptPoint(int used) {
            int point = numberUpTo(endOfRun('0', '9'));
            if (isOutside(point, POINTS) || (used >> point & 1) == 1) {
                return NONE;
            }
            position = endOfRun('0', '9');
            return point;
        }

        private int acceptPower() {
            int power = numberUpTo(endOfRun('0', '9'));
            if (power != NONE) {
                position = endOfRun('0', '9');
            }
            return power;
        }

        /** The number of one or two digits that ends there, or NONE if there is none. */
        private int numberUpTo(int end) {
            if (end == position || end > position + 2) {
                return NONE;
            }
            int number = 0;
            for (int k = position; k < end && k < length; k++) {
                number = 10 * number + letters[k] - '0';
            }
            return number;
        }

        private void raise(int[] part, int power, boolean inverse) {
            if (inverse) {
                Moves.invert(part, powered);
            } else {
                Moves.assign(powered, part);
            }
            Moves.makeSame(part);
            for (int k = 0; k < power; k++) {
                Moves.follow(part, powered);
            }
        }

        private boolean accept(int letter) {
            if (!isNext(letter)) {
                return false;
            }
            position++;
            return true;
        }

        private boolean isNext(int letter) {
            return !isAtEnd() && letters[position] == letter;
        }

        private boolean isAtEnd() {
            while (position < length && letters[position] == ' ') {
                position++;
            }
            return position >= length;
        }

        /** Goes to the next run and returns where its characters of this kind end. */
        private int endOfRun(int lowest, int highest) {
            int end = isAtEnd() ? length : position;
            while (end < length && letters[end] >= lowest && letters[end] <= highest) {
                end++;
            }
            return end;
        }
    }

    /** The sheets, each with room for the longest. A sheet that does not exist has no lane. */
    private static final class Sheets {
        static final int NUMBER = 4;
        static final int LANES = 4;
        static final int LONGEST = 32;

        private final long[][] values = new long[NUMBER][LONGEST];
        private final int[] lanes = new int[NUMBER];
        private final int[] lengths = new int[NUMBER];

        Sheets() {
            Arrays.fill(lanes, NONE);
        }

        void create(int sheet, int lane, int length) {
            Arrays.fill(values[sheet], 0L);
            lanes[sheet] = lane;
            lengths[sheet] = length;
        }

        int remove(int sheet) {
            if (lanes[sheet] == NONE) {
                return NULL;
            }
            lanes[sheet] = NONE;
            return lengths[sheet];
        }

        /** Why n elements from an index on cannot be used, or 0 if they can. */
        int fault(int sheet, int lane, int i, int n) {
            if (lanes[sheet] == NONE) {
                return NULL;
            }
            if (lanes[sheet] != lane) {
                return CAST;
            }
            return isInside(sheet, i, n) ? 0 : INDEX;
        }

        private boolean isInside(int sheet, int i, int n) {
            return i >= 0 && n >= 0 && i <= lengths[sheet] - n;
        }

        void put(int sheet, int i, long value) {
            if (!isInside(sheet, i, 1)) {
                return;
            }
            switch (lanes[sheet]) {
                case 0:
                    values[sheet][i] = (byte) value;
                    break;
                case 1:
                    values[sheet][i] = (short) value;
                    break;
                case 2:
                    values[sheet][i] = (int) value;
                    break;
                default:
                    values[sheet][i] = value;
                    break;
            }
        }

        boolean holdPoints(int sheet, int i, int n) {
            for (int k = i; k < i + n; k++) {
                if (pointAt(sheet, k) == NONE) {
                    return false;
                }
            }
            return true;
        }

        int pointAt(int sheet, int i) {
            if (!isInside(sheet, i, 1) || values[sheet][i] < 0L || values[sheet][i] >= POINTS) {
                return NONE;
            }
            return (int) values[sheet][i];
        }

        int transfer(int from, int i, int to, int j, int n) {
            if (lanes[from] == NONE || lanes[to] == NONE) {
                return NULL;
            }
            if (lanes[from] != lanes[to]) {
                return CAST;
            }
            if (!isInside(from, i, n) || !isInside(to, j, n)) {
                return INDEX;
            }
            System.arraycopy(values[from], i, values[to], j, n);
            return n;
        }
    }
}
