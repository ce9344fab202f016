import java.math.BigInteger;
import java.util.ArrayDeque;
import java.util.ArrayList;
import java.util.Arrays;
import java.util.HashMap;
import java.util.HashSet;
import java.util.List;
import java.util.Map;
import java.util.Set;
import java.util.TreeMap;
import java.util.TreeSet;

/**
 * The document once more, by counting and trying, with nothing of the class's own ways: what the
 * class is compared with. Groups of up to SMALL_GROUP elements are written out whole.
 */
final class Reference {
    static final int SMALL_GROUP = 12000;
    private static final int[] STARTS = {5, 7, 10, 11, 14, 15, 17, 19, 20, 21, 22};
    private static int[] words;
    private static TreeMap<Integer, Integer> numbers;
    private static int[] octads;
    private static int[] dodecads;

    /** What can be undone. */
    private static final class State {
        int[][] moves = new int[5][24];
        int chosen;
        long random;

        State twin() {
            State twin = new State();
            for (int m = 0; m < 5; m++) {
                twin.moves[m] = moves[m].clone();
            }
            twin.chosen = chosen;
            twin.random = random;
            return twin;
        }
    }

    private State now = new State();
    private List<State> kept = new ArrayList<>();
    private State savedNow;
    private List<State> savedKept;
    private String tape = "";
    private final long[][] sheets = new long[4][];
    private final int[] lanes = new int[4];

    Reference() {
        if (words == null) {
            makeCode();
        }
        for (int m = 0; m < 5; m++) {
            now.moves[m] = constant(m);
        }
        now.chosen = words[1];
        now.random = 1;
    }

    private static void makeCode() {
        words = new int[4096];
        numbers = new TreeMap<>();
        for (int n = 0; n < 4096; n++) {
            for (int k = 0; k < 12; k++) {
                if ((n & 1 << k) != 0) {
                    words[n] ^= 1 << 23;
                    for (int start : STARTS) {
                        words[n] ^= 1 << (start - k + 23) % 23;
                    }
                }
            }
            numbers.put(words[n], n);
        }
        octads = numbers.keySet().stream().filter(w -> Integer.bitCount(w) == 8).mapToInt(w -> w).toArray();
        dodecads = numbers.keySet().stream().filter(w -> Integer.bitCount(w) == 12).mapToInt(w -> w).toArray();
    }

    private static int[] constant(int m) {
        Set<Integer> squares = Set.of(1, 2, 3, 4, 6, 8, 9, 12, 13, 16, 18);
        int[] move = new int[24];
        for (int p = 0; p < 23; p++) {
            int cube = p * p * p;
            switch (m) {
                case 0 -> move[p] = (p + 1) % 23;
                case 1 -> move[p] = 2 * p % 23;
                case 2 -> move[p] = p == 0 ? 23
                    : BigInteger.valueOf(22L * p).modInverse(BigInteger.valueOf(23)).intValue();
                case 3 -> move[p] = squares.contains(p) ? 18 * cube % 23 : 9 * cube % 23;
                default -> move[p] = p;
            }
        }
        move[23] = m == 2 ? 0 : 23;
        return move;
    }

    private static boolean off(long value, long end) {
        return value < 0 || value >= end;
    }

    private static boolean noSet(int set) {
        return off(set, 1 << 24);
    }

    private static List<Integer> points(int set) {
        List<Integer> points = new ArrayList<>();
        for (int p = 0; p < 24; p++) {
            if ((set & 1 << p) != 0) {
                points.add(p);
            }
        }
        return points;
    }

    private static int setOf(Iterable<Integer> points) {
        int set = 0;
        for (int p : points) {
            set |= 1 << p;
        }
        return set;
    }

    private static int image(int[] move, int set) {
        return setOf(points(set).stream().map(p -> move[p]).toList());
    }

    // ---- the code

    long word(int set, int what) {
        if (noSet(set) || off(what, 7)) {
            return -1;
        }
        TreeMap<Integer, TreeSet<Integer>> byDistance = new TreeMap<>();
        for (int word : words) {
            byDistance.computeIfAbsent(Integer.bitCount(word ^ set), d -> new TreeSet<>()).add(word);
        }
        return switch (what) {
            case 0 -> points(set).size();
            case 1 -> numbers.getOrDefault(set, -4);
            case 2 -> byDistance.firstKey();
            case 3 -> byDistance.firstEntry().getValue().size();
            case 4 -> byDistance.firstEntry().getValue().first();
            case 5 -> Arrays.stream(octads).filter(o -> (o | set) == set).count();
            default -> Arrays.stream(octads).filter(o -> (o | set) == o).count();
        };
    }

    long block(int what, int k) {
        if (off(what, 3)) {
            return -1;
        }
        int[] row = what == 0 ? words : what == 1 ? octads : dodecads;
        return off(k, row.length) ? -1 : row[k];
    }

    private static int octadAround(int set) {
        return Arrays.stream(octads).filter(o -> (o & set) == set).findFirst().orElseThrow();
    }

    long complete(int set) {
        return noSet(set) ? -1 : points(set).size() != 5 ? -2 : octadAround(set);
    }

    private static List<Integer> tetrads(int set) {
        List<Integer> tetrads = new ArrayList<>(List.of(set));
        for (int octad : octads) {
            if ((octad & set) == set) {
                tetrads.add(octad & ~set);
            }
        }
        tetrads.sort((a, b) -> Integer.compare(points(a).get(0), points(b).get(0)));
        return tetrads;
    }

    long sextet(int set, int k) {
        return noSet(set) || off(k, 6) ? -1 : points(set).size() != 4 ? -2 : tetrads(set).get(k);
    }

    private static Set<Integer> unions(int set) {
        Set<Integer> unions = new HashSet<>();
        for (int a : tetrads(set)) {
            for (int b : tetrads(set)) {
                if (a != b) {
                    unions.add(a | b);
                }
            }
        }
        return unions;
    }

    long both(int one, int other) {
        if (noSet(one) || noSet(other)) {
            return -1;
        }
        if (points(one).size() != 4 || points(other).size() != 4) {
            return -2;
        }
        Set<Integer> common = unions(one);
        common.retainAll(unions(other));
        return Arrays.stream(octads).filter(common::contains).count();
    }

    long met(int set, int k) {
        return noSet(set) || off(k, 9) ? -1
            : Arrays.stream(octads).filter(o -> points(o & set).size() == k).count();
    }

    // ---- permutations

    long move(int m, int p) {
        return off(m, 5) || off(p, 24) ? -1 : now.moves[m][p];
    }

    private static boolean preserves(int[] move) {
        for (int k = 0; k < 12; k++) {
            if (!numbers.containsKey(image(move, words[1 << k]))) {
                return false;
            }
        }
        return true;
    }

    private static List<List<Integer>> cycles(int[] move) {
        List<List<Integer>> cycles = new ArrayList<>();
        Set<Integer> seen = new HashSet<>();
        for (int p = 0; p < 24; p++) {
            List<Integer> cycle = new ArrayList<>();
            for (int q = p; seen.add(q); q = move[q]) {
                cycle.add(q);
            }
            if (!cycle.isEmpty()) {
                cycles.add(cycle);
            }
        }
        return cycles;
    }

    private static String text(int[] move) {
        StringBuilder text = new StringBuilder();
        for (List<Integer> cycle : cycles(move)) {
            if (cycle.size() > 1) {
                text.append(cycle.toString().replace('[', '(').replace(']', ')').replace(" ", ""));
            }
        }
        return text.toString();
    }

    private static int[] product(int[] first, int[] second) {
        return Arrays.stream(first).map(p -> second[p]).toArray();
    }

    private static int[] inverse(int[] move) {
        int[] inverse = new int[24];
        for (int p = 0; p < 24; p++) {
            inverse[move[p]] = p;
        }
        return inverse;
    }

    private static int[] same() {
        return constant(4);
    }

    private static int order(int[] move) {
        int order = 1;
        for (int[] power = move; !Arrays.equals(power, same()); power = product(power, move)) {
            order++;
        }
        return order;
    }

    long told(int m, int what) {
        if (off(m, 5) || off(what, 8)) {
            return -1;
        }
        int[] move = now.moves[m];
        int goes = image(move, now.chosen);
        return switch (what) {
            case 0 -> preserves(move) ? 1 : 0;
            case 1 -> cycles(move).stream().filter(c -> c.size() == 1).count();
            case 2 -> cycles(move).size();
            case 3 -> order(move);
            case 4 -> (24 - cycles(move).size()) % 2;
            case 5 -> Arrays.stream(octads).filter(o -> image(move, o) == o).count();
            case 6 -> goes == now.chosen ? 1 : (goes & now.chosen) == 0 ? 2 : 0;
            default -> text(move).length();
        };
    }

    long letter(int m, int k) {
        if (off(m, 5) || k < 0) {
            return -1;
        }
        String text = text(now.moves[m]);
        return k < text.length() ? text.charAt(k) : -4;
    }

    long sent(int m, int set) {
        return off(m, 5) || noSet(set) ? -1 : image(now.moves[m], set);
    }

    long type(int letter) {
        if (letter < 32 || letter > 126) {
            return -1;
        }
        if (tape.length() >= 100) {
            return -3;
        }
        tape += (char) letter;
        return tape.length();
    }

    /** Where a text has its error. */
    private static final class Fault extends Exception {
        private static final long serialVersionUID = 1L;
        final int position;

        Fault(int position) {
            this.position = position;
        }
    }

    /** A run of letters, a run of digits, or another character. */
    private record Token(String text, int position) { }

    private List<Token> tokens;
    private int next;

    private void cut() {
        tokens = new ArrayList<>();
        java.util.regex.Matcher matcher = java.util.regex.Pattern.compile("[a-z]+|[0-9]+|[^ ]").matcher(tape);
        while (matcher.find()) {
            tokens.add(new Token(matcher.group(), matcher.start()));
        }
        tokens.add(new Token("", tape.length()));
        next = 0;
    }

    private Fault fault() {
        return new Fault(tokens.get(next).position());
    }

    private boolean comes(String text) {
        if (tokens.get(next).text().equals(text)) {
            next++;
            return true;
        }
        return false;
    }

    private int[] parseProduct(int open) throws Fault {
        int[] result = parseFactor(open);
        while (comes("*")) {
            result = product(result, parseFactor(open));
        }
        return result;
    }

    private int[] parseFactor(int open) throws Fault {
        int[] factor = parsePlain(open);
        if (!comes("^")) {
            return factor;
        }
        if (comes("-")) {
            factor = inverse(factor);
        }
        String digits = tokens.get(next).text();
        if (!digits.matches("[0-9][0-9]?")) {
            throw fault();
        }
        next++;
        int[] result = same();
        for (int k = Integer.parseInt(digits); k > 0; k--) {
            result = product(result, factor);
        }
        return result;
    }

    private int[] parsePlain(int open) throws Fault {
        List<String> names = List.of("step", "twice", "over", "wild", "same");
        String text = tokens.get(next).text();
        if (names.contains(text)) {
            next++;
            return constant(names.indexOf(text));
        }
        if (text.matches("[a-e]")) {
            next++;
            return now.moves[text.charAt(0) - 'a'].clone();
        }
        if (text.equals("[") && open < 6) {
            next++;
            int[] inner = parseProduct(open + 1);
            if (!comes("]")) {
                throw fault();
            }
            return inner;
        }
        if (!comes("(")) {
            throw fault();
        }
        List<Integer> cycle = new ArrayList<>();
        do {
            String digits = tokens.get(next).text();
            if (!digits.matches("[0-9][0-9]?") || Integer.parseInt(digits) > 23
                || cycle.contains(Integer.parseInt(digits))) {
                throw fault();
            }
            next++;
            cycle.add(Integer.parseInt(digits));
        } while (comes(","));
        if (!comes(")")) {
            throw fault();
        }
        int[] move = same();
        for (int k = 0; k < cycle.size(); k++) {
            move[cycle.get(k)] = cycle.get((k + 1) % cycle.size());
        }
        return move;
    }

    long read(int m) {
        if (off(m, 4)) {
            return -1;
        }
        cut();
        try {
            int[] move = parseProduct(0);
            if (next != tokens.size() - 1) {
                throw fault();
            }
            keep();
            int elsewhere = 0;
            for (int p = 0; p < 24; p++) {
                elsewhere += move[p] == now.moves[m][p] ? 0 : 1;
            }
            now.moves[m] = move;
            return elsewhere;
        } catch (Fault fault) {
            return -20 - fault.position;
        } finally {
            tape = "";
        }
    }

    // ---- groups

    private List<int[]> generators(int moves) {
        List<int[]> generators = new ArrayList<>();
        for (int m : points(moves)) {
            generators.add(now.moves[m]);
        }
        return generators;
    }

    private boolean allPreserve(int moves) {
        return generators(moves).stream().allMatch(Reference::preserves);
    }

    /** All elements of the group of the generators, or null if they are too many. */
    private static List<int[]> elements(List<int[]> generators) {
        Set<String> seen = new HashSet<>();
        List<int[]> elements = new ArrayList<>();
        elements.add(same());
        seen.add(Arrays.toString(same()));
        for (int k = 0; k < elements.size(); k++) {
            for (int[] generator : generators) {
                int[] more = product(elements.get(k), generator);
                if (seen.add(Arrays.toString(more))) {
                    elements.add(more);
                    if (elements.size() > SMALL_GROUP) {
                        return null;
                    }
                }
            }
        }
        return elements;
    }

    /** Generators of the stabilizer of a point: all of Schreier's, thinned out by Sims's filter. */
    private static List<int[]> stabilizer(List<int[]> generators, int point, int[] orbitSize) {
        int[][] senders = new int[24][];
        senders[point] = same();
        ArrayDeque<Integer> open = new ArrayDeque<>(List.of(point));
        List<Integer> orbit = new ArrayList<>();
        while (!open.isEmpty()) {
            int p = open.poll();
            orbit.add(p);
            for (int[] generator : generators) {
                if (senders[generator[p]] == null) {
                    senders[generator[p]] = product(senders[p], generator);
                    open.add(generator[p]);
                }
            }
        }
        orbitSize[0] = orbit.size();
        int[][][] filter = new int[24][24][];
        List<int[]> stabilizer = new ArrayList<>();
        for (int p : orbit) {
            for (int[] generator : generators) {
                int[] element = product(product(senders[p], generator), inverse(senders[generator[p]]));
                for (int i = 0; i < 24; i++) {
                    if (element[i] != i) {
                        if (filter[i][element[i]] == null) {
                            filter[i][element[i]] = element;
                            stabilizer.add(element);
                            break;
                        }
                        element = product(element, inverse(filter[i][element[i]]));
                    }
                }
            }
        }
        return stabilizer;
    }

    private static long order(List<int[]> generators) {
        long order = 1;
        List<int[]> level = generators;
        // From the highest point down, unlike the class.
        for (int p = 23; p >= 0; p--) {
            int[] size = new int[1];
            level = stabilizer(level, p, size);
            order *= size[0];
        }
        return order;
    }

    private static int orbitNumber(List<int[]> generators, Iterable<Integer> sets) {
        Set<Integer> seen = new HashSet<>();
        int number = 0;
        for (int set : sets) {
            if (!seen.contains(set)) {
                number++;
                seen.addAll(orbit(generators, set));
            }
        }
        return number;
    }

    private static Set<Integer> orbit(List<int[]> generators, int set) {
        Set<Integer> orbit = new HashSet<>(Set.of(set));
        ArrayDeque<Integer> open = new ArrayDeque<>(orbit);
        while (!open.isEmpty()) {
            int from = open.poll();
            for (int[] generator : generators) {
                int to = image(generator, from);
                if (orbit.add(to)) {
                    open.add(to);
                }
            }
        }
        return orbit;
    }

    private static int sextetOrbits(List<int[]> generators) {
        Map<Integer, Integer> ofTetrad = new HashMap<>();
        List<Integer> firsts = new ArrayList<>();
        for (int b = 1; b < 24; b++) {
            for (int c = b + 1; c < 24; c++) {
                for (int d = c + 1; d < 24; d++) {
                    int first = 1 | 1 << b | 1 << c | 1 << d;
                    firsts.add(first);
                    tetrads(first).forEach(t -> ofTetrad.put(t, first));
                }
            }
        }
        Set<Integer> seen = new HashSet<>();
        int number = 0;
        for (int first : firsts) {
            if (seen.add(first)) {
                number++;
                ArrayDeque<Integer> open = new ArrayDeque<>(List.of(first));
                while (!open.isEmpty()) {
                    int from = open.poll();
                    for (int[] generator : generators) {
                        int to = ofTetrad.get(image(generator, from));
                        if (seen.add(to)) {
                            open.add(to);
                        }
                    }
                }
            }
        }
        return number;
    }

    long group(int moves, int what) {
        if (off(moves, 16) || off(what, 5)) {
            return -1;
        }
        if (!allPreserve(moves)) {
            return -2;
        }
        List<int[]> generators = generators(moves);
        return switch (what) {
            case 0 -> order(generators);
            case 1 -> orbitNumber(generators, points((1 << 24) - 1).stream().map(p -> 1 << p).toList());
            case 2 -> orbitNumber(generators, Arrays.stream(octads).boxed().toList());
            case 3 -> orbitNumber(generators, Arrays.stream(dodecads).boxed().toList());
            default -> sextetOrbits(generators);
        };
    }

    long held(int moves, int set, int what) {
        if (off(moves, 16) || noSet(set) || off(what, 3)) {
            return -1;
        }
        if (!allPreserve(moves) || what == 2 && !numbers.containsKey(set)) {
            return -2;
        }
        List<int[]> generators = generators(moves);
        if (what == 0) {
            int reached = 0;
            for (int p : points(set)) {
                reached |= setOf(orbit(generators, 1 << p).stream().map(Integer::numberOfTrailingZeros).toList());
            }
            return reached;
        }
        List<int[]> elements = elements(generators);
        if (elements != null) {
            return elements.stream().filter(e -> what == 2 ? image(e, set) == set
                : points(set).stream().allMatch(p -> e[p] == p)).count();
        }
        if (what == 2) {
            return order(generators) / orbit(generators, set).size();
        }
        List<int[]> level = generators;
        for (int p : points(set)) {
            level = stabilizer(level, p, new int[1]);
        }
        return order(level);
    }

    long holds(int moves, int m) {
        if (off(moves, 16) || off(m, 5)) {
            return -1;
        }
        if (!allPreserve(moves)) {
            return -2;
        }
        if (!preserves(now.moves[m])) {
            return 0;
        }
        List<int[]> generators = generators(moves);
        long before = order(generators);
        generators.add(now.moves[m]);
        return order(generators) == before ? 1 : 0;
    }

    // ---- the small system, changes

    private void keep() {
        kept.add(now.twin());
        if (kept.size() > 6) {
            kept.remove(0);
        }
    }

    long choose(int set) {
        if (noSet(set)) {
            return -1;
        }
        if (set == now.chosen || Arrays.binarySearch(dodecads, set) < 0) {
            return -2;
        }
        keep();
        int previous = now.chosen;
        now.chosen = set;
        return previous;
    }

    private Set<Integer> hexads() {
        Set<Integer> hexads = new TreeSet<>();
        for (int octad : octads) {
            if (Integer.bitCount(octad & now.chosen) == 6) {
                hexads.add(octad & now.chosen);
            }
        }
        return hexads;
    }

    long hexad(int set) {
        if (noSet(set)) {
            return -1;
        }
        if (points(set).size() != 5 || !points(now.chosen).containsAll(points(set))) {
            return -2;
        }
        return hexads().stream().filter(h -> (h & set) == set).findFirst().orElseThrow();
    }

    long turn(int p, int q) {
        if (off(p, 24) || off(q, 24)) {
            return -1;
        }
        if (p == q || points(now.chosen).contains(p) || points(now.chosen).contains(q)) {
            return -2;
        }
        int lowest = points(now.chosen).get(0);
        return hexads().stream().filter(h -> points(h).contains(lowest))
            .filter(h -> Arrays.binarySearch(octads, h | 1 << p | 1 << q) >= 0).findFirst().orElseThrow();
    }

    long pair(int set) {
        if (noSet(set)) {
            return -1;
        }
        return hexads().contains(set) ? octadAround(set) & ~set : -2;
    }

    long drift(int n) {
        if (n < 1 || n > 40) {
            return -1;
        }
        for (int k = 0; k < n; k++) {
            keep();
            now.random = BigInteger.valueOf(now.random).multiply(BigInteger.valueOf(1103515245))
                .add(BigInteger.valueOf(12345)).mod(BigInteger.ONE.shiftLeft(31)).longValueExact();
            int x = (int) (now.random / 65536);
            int y = x / 8;
            if (x % 8 == 0) {
                now.chosen = dodecads[y % 2576];
            } else {
                now.moves[x % 4] = product(now.moves[x % 4], now.moves[y % 5]);
            }
        }
        return now.chosen;
    }

    long undo() {
        if (kept.isEmpty()) {
            return -4;
        }
        now = kept.remove(kept.size() - 1);
        return kept.size();
    }

    long seed(int v) {
        if (v < 0) {
            return -1;
        }
        long previous = now.random;
        now.random = v;
        return previous;
    }

    long count(int what) {
        if (off(what, 4)) {
            return -1;
        }
        int preserving = 0;
        for (int m = 0; m < 5; m++) {
            preserving |= preserves(now.moves[m]) ? 1 << m : 0;
        }
        return what == 0 ? now.chosen : what == 1 ? kept.size() : what == 2 ? preserving : savedNow != null ? 1 : 0;
    }

    private static List<State> twins(List<State> states) {
        return new ArrayList<>(states.stream().map(State::twin).toList());
    }

    long image() {
        savedNow = now.twin();
        savedKept = twins(kept);
        return 1;
    }

    long restore() {
        if (savedNow == null) {
            return -4;
        }
        now = savedNow.twin();
        kept = twins(savedKept);
        return 1;
    }

    // ---- sheets

    private long fault(int sheet, int lane, long i, long n) {
        if (sheets[sheet] == null) {
            return -11;
        }
        if (lanes[sheet] != lane) {
            return -12;
        }
        return i < 0 || n < 0 || i + n > sheets[sheet].length ? -13 : 0;
    }

    private static boolean noLane(int sheet, int lane) {
        return off(sheet, 4) || off(lane, 4);
    }

    long retrace(int moves, int sheet, int lane, int i, int n) {
        if (off(moves, 16) || noLane(sheet, lane) || n < 1 || n > 8) {
            return -1;
        }
        long fault = fault(sheet, lane, i, 2L * n);
        if (fault != 0) {
            return fault;
        }
        for (int k = i; k < i + 2 * n; k++) {
            if (off(sheets[sheet][k], 24)) {
                return -2;
            }
        }
        if (!allPreserve(moves)) {
            return -2;
        }
        long[] given = Arrays.copyOfRange(sheets[sheet], i, i + 2 * n);
        List<int[]> elements = elements(generators(moves));
        if (elements == null) {
            return retraceLarge(generators(moves), given);
        }
        int[] lowest = null;
        long number = 0;
        for (int[] element : elements) {
            boolean fits = true;
            for (int k = 0; k < 2 * n; k += 2) {
                fits &= element[(int) given[k]] == given[k + 1];
            }
            if (fits) {
                number++;
                if (lowest == null || Arrays.compare(element, lowest) < 0) {
                    lowest = element;
                }
            }
        }
        if (lowest != null) {
            now.moves[4] = lowest.clone();
        }
        return number;
    }

    /** Goes from stabilizer to stabilizer, first for the given points, then for all from 0 on. */
    private long retraceLarge(List<int[]> generators, long[] given) {
        List<int[]> level = generators;
        int[] element = same();
        long number = 0;
        for (int k = 0; k < given.length / 2 + 24; k++) {
            boolean isGiven = k < given.length / 2;
            if (k == given.length / 2) {
                number = order(level);
            }
            int p = isGiven ? (int) given[2 * k] : k - given.length / 2;
            int[] sender = null;
            if (isGiven) {
                sender = sender(level, p, inverse(element)[(int) given[2 * k + 1]]);
            }
            for (int target = 0; target < 24 && !isGiven && sender == null; target++) {
                sender = sender(level, p, inverse(element)[target]);
            }
            if (sender == null) {
                return 0;
            }
            element = product(sender, element);
            level = stabilizer(level, p, new int[1]);
        }
        now.moves[4] = element;
        return number;
    }

    /** An element that sends one point to another, or null. */
    private static int[] sender(List<int[]> generators, int from, int to) {
        int[][] senders = new int[24][];
        senders[from] = same();
        for (int round = 0; round < 24; round++) {
            for (int p = 0; p < 24; p++) {
                for (int[] generator : generators) {
                    if (senders[p] != null && senders[generator[p]] == null) {
                        senders[generator[p]] = product(senders[p], generator);
                    }
                }
            }
        }
        return senders[to];
    }

    private long narrowed(int lane, long v) {
        return lane == 0 ? (byte) v : lane == 1 ? (short) v : lane == 2 ? (int) v : v;
    }

    long film(int m, int sheet, int lane, int i) {
        if (off(m, 5) || noLane(sheet, lane)) {
            return -1;
        }
        long fault = fault(sheet, lane, i, 24);
        if (fault != 0) {
            return fault;
        }
        for (int p = 0; p < 24; p++) {
            sheets[sheet][i + p] = now.moves[m][p];
        }
        return 24;
    }

    long sheet(int sheet, int lane, int n) {
        if (noLane(sheet, lane) || n > 32) {
            return -1;
        }
        if (n < 0) {
            return -14;
        }
        sheets[sheet] = new long[n];
        lanes[sheet] = lane;
        return n;
    }

    long drop(int sheet) {
        if (off(sheet, 4)) {
            return -1;
        }
        if (sheets[sheet] == null) {
            return -11;
        }
        int length = sheets[sheet].length;
        sheets[sheet] = null;
        return length;
    }

    long item(int sheet, int lane, int i, long v) {
        if (noLane(sheet, lane)) {
            return -1;
        }
        long fault = fault(sheet, lane, i, 1);
        if (fault != 0) {
            return fault;
        }
        sheets[sheet][i] = narrowed(lane, v);
        return 1;
    }

    long copy(int from, int i, int to, int j, int n) {
        if (off(from, 4) || off(to, 4)) {
            return -1;
        }
        if (sheets[from] == null || sheets[to] == null) {
            return -11;
        }
        if (lanes[from] != lanes[to]) {
            return -12;
        }
        if (i < 0 || j < 0 || n < 0 || (long) i + n > sheets[from].length || (long) j + n > sheets[to].length) {
            return -13;
        }
        long[] between = Arrays.copyOfRange(sheets[from], i, i + n);
        System.arraycopy(between, 0, sheets[to], j, n);
        return n;
    }
}
