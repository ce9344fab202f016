import java.util.Random;

/** Random runs of calls, each answer compared with the one of the Reference. */
public final class CompareTest {
    private static final int CALLS = 512;
    /** A text of up to 103 characters is one act, in which calls make the set that it needs too. */
    private static final int LONGEST_ACT = 110;
    private final Check check;
    private final Random random;
    private final Bench blocks = new Bench();
    private final Reference reference = new Reference();
    private final int run;

    private CompareTest(Check check, int run) {
        this.check = check;
        this.run = run;
        this.random = new Random(1000003L * run + 17);
    }

    public static void main(String[] args) {
        int runs = args.length > 0 ? Integer.parseInt(args[0]) : 120;
        int first = args.length > 1 ? Integer.parseInt(args[1]) : 0;
        Check check = new Check("CompareTest");
        for (int run = first; run < first + runs; run++) {
            CompareTest test = new CompareTest(check, run);
            while (test.blocks.calls() < CALLS - LONGEST_ACT) {
                test.act(run % 6);
            }
            while (test.blocks.calls() <= CALLS - 2) {
                test.actOnMoves();
            }
        }
        check.end();
    }

    private long due(String call, long got, long want) {
        check.due("run " + run + " call " + blocks.calls() + ": " + call, got, want);
        return got;
    }

    private boolean chance(int percent) {
        return random.nextInt(100) < percent;
    }

    /** A number from 0 to end - 1, and now and then one outside. */
    private int below(int end) {
        if (chance(97)) {
            return random.nextInt(end);
        }
        int[] odd = {-1, end, end + 1, Integer.MIN_VALUE, Integer.MAX_VALUE, -2};
        return odd[random.nextInt(odd.length)];
    }

    private int subset(int set, int size) {
        int chosen = 0;
        for (int tries = 0; tries < 1000 && Integer.bitCount(chosen) < Math.min(size, Integer.bitCount(set)); tries++) {
            chosen |= set & 1 << random.nextInt(24);
        }
        return chosen;
    }

    private int set() {
        switch (random.nextInt(9)) {
            case 0:
                return below(1 << 24);
            case 1:
                return blocks.block(0, random.nextInt(4096));
            case 2:
                return blocks.block(1, random.nextInt(759));
            case 3:
                return blocks.block(2, random.nextInt(2576));
            case 4:
                return subset(blocks.count(0), random.nextInt(13));
            case 5:
                return subset(blocks.block(1, random.nextInt(759)), 3 + random.nextInt(5));
            case 6:
                return blocks.block(1, random.nextInt(759)) ^ subset(16777215, random.nextInt(4));
            case 7:
                return blocks.count(0) ^ (chance(50) ? 16777215 : 0);
            default:
                return subset(16777215, random.nextInt(9));
        }
    }

    private int setOf(int size) {
        return chance(94) ? subset(chance(50) ? 16777215 : blocks.block(1, random.nextInt(759)), size) : set();
    }

    /** Sets of permutations: mostly single ones, whose groups are small. */
    private int moves() {
        return chance(45) ? 1 << random.nextInt(4) : below(16);
    }

    private void act(int kind) {
        int weight = random.nextInt(100);
        if (weight < 25) {
            actOnCode();
        } else if (weight < 45) {
            actOnMoves();
        } else if (weight < 52) {
            readText(kind);
        } else if (weight < 65) {
            actOnGroups(kind);
        } else if (weight < 82) {
            actOnChanges(kind);
        } else if (weight < 95) {
            actOnSheets();
        } else {
            retrace();
        }
    }

    private void actOnCode() {
        int what = below(7);
        int set = set();
        switch (random.nextInt(6)) {
            case 0 -> due("word(" + set + ", " + what + ")", blocks.word(set, what), reference.word(set, what));
            case 1 -> {
                int list = below(3);
                int k = below(list == 0 ? 4096 : list == 1 ? 759 : 2576);
                due("block(" + list + ", " + k + ")", blocks.block(list, k), reference.block(list, k));
            }
            case 2 -> {
                int five = setOf(5);
                due("complete(" + five + ")", blocks.complete(five), reference.complete(five));
            }
            case 3 -> {
                int four = setOf(4);
                int k = below(6);
                due("sextet(" + four + ", " + k + ")", blocks.sextet(four, k), reference.sextet(four, k));
            }
            case 4 -> {
                int octad = blocks.block(1, random.nextInt(759));
                int one = chance(60) ? subset(octad, 4) : setOf(4);
                int other = chance(60) ? subset(octad, 4) : setOf(4);
                due("both(" + one + ", " + other + ")", blocks.both(one, other), reference.both(one, other));
            }
            default -> {
                int k = below(9);
                due("met(" + set + ", " + k + ")", blocks.met(set, k), reference.met(set, k));
            }
        }
    }

    private void actOnMoves() {
        int m = below(5);
        switch (random.nextInt(4)) {
            case 0 -> {
                int p = below(24);
                due("move(" + m + ", " + p + ")", blocks.move(m, p), reference.move(m, p));
            }
            case 1 -> {
                int what = below(8);
                due("told(" + m + ", " + what + ")", blocks.told(m, what), reference.told(m, what));
            }
            case 2 -> {
                int k = below(80);
                due("letter(" + m + ", " + k + ")", blocks.letter(m, k), reference.letter(m, k));
            }
            default -> {
                int set = set();
                due("sent(" + m + ", " + set + ")", blocks.sent(m, set), reference.sent(m, set));
            }
        }
    }

    private void readText(int kind) {
        StringBuilder text = new StringBuilder();
        addProduct(text, 0, kind == 5 || chance(20));
        for (int changes = chance(70) ? 0 : 1 + random.nextInt(3); changes > 0; changes--) {
            spoil(text);
        }
        for (int k = 0; k < text.length() && k < 103; k++) {
            int letter = chance(99) ? text.charAt(k) : random.nextInt(130);
            due("type(" + letter + ")", blocks.type(letter), reference.type(letter));
        }
        int m = chance(97) ? random.nextInt(4) : below(4);
        due("read(" + m + ") of " + text, blocks.read(m), reference.read(m));
    }

    private void addProduct(StringBuilder text, int depth, boolean hasCycles) {
        int factors = chance(60) ? 1 : 1 + random.nextInt(3);
        for (int k = 0; k < factors; k++) {
            text.append(k == 0 ? "" : "*");
            addBlanks(text);
            if (hasCycles && chance(50)) {
                addCycle(text);
            } else if (chance(depth < 4 ? 30 : 10) && text.length() < 60) {
                text.append('[');
                addProduct(text, depth + 1, hasCycles);
                text.append(']');
            } else {
                String[] names = {"step", "twice", "over", "wild", "same", "a", "b", "c", "d", "e"};
                text.append(names[random.nextInt(names.length)]);
            }
            addBlanks(text);
            if (chance(35)) {
                text.append('^').append(chance(40) ? "-" : "");
                addBlanks(text);
                text.append(random.nextInt(chance(50) ? 100 : 13));
            }
        }
    }

    private void addCycle(StringBuilder text) {
        int used = 0;
        text.append('(');
        int points = 1 + random.nextInt(5);
        for (int k = 0; k < points; k++) {
            int point = random.nextInt(24);
            if ((used & 1 << point) == 0 || chance(3)) {
                text.append(used == 0 ? "" : ",");
                addBlanks(text);
                text.append(point < 10 && chance(10) ? "0" : "").append(point);
                addBlanks(text);
                used |= 1 << point;
            }
        }
        text.append(')');
    }

    private void addBlanks(StringBuilder text) {
        while (chance(6)) {
            text.append(' ');
        }
    }

    private void spoil(StringBuilder text) {
        String signs = "[]()^*-, 0129azstepwild!A~";
        char sign = signs.charAt(random.nextInt(signs.length()));
        int place = random.nextInt(text.length() + 1);
        switch (random.nextInt(4)) {
            case 0 -> text.insert(place, sign);
            case 1 -> text.setLength(place);
            case 2 -> text.insert(place, "[[[");
            default -> {
                if (place < text.length()) {
                    if (chance(50)) {
                        text.setCharAt(place, sign);
                    } else {
                        text.deleteCharAt(place);
                    }
                }
            }
        }
    }

    private void actOnGroups(int kind) {
        int moves = moves();
        switch (random.nextInt(kind == 0 ? 3 : 6)) {
            case 0 -> {
                int m = below(5);
                due("holds(" + moves + ", " + m + ")", blocks.holds(moves, m), reference.holds(moves, m));
            }
            case 1, 2 -> {
                int set = set();
                int what = below(3);
                due("held(" + moves + ", " + set + ", " + what + ")",
                    blocks.held(moves, set, what), reference.held(moves, set, what));
            }
            default -> {
                int what = chance(50) ? 0 : below(5);
                due("group(" + moves + ", " + what + ")", blocks.group(moves, what), reference.group(moves, what));
            }
        }
    }

    private void actOnChanges(int kind) {
        switch (random.nextInt(kind < 3 ? 9 : 11)) {
            case 0 -> {
                int set = chance(70) ? blocks.block(2, random.nextInt(2576)) : set();
                due("choose(" + set + ")", blocks.choose(set), reference.choose(set));
            }
            case 1 -> {
                int five = chance(90) ? subset(blocks.count(0), 5) : setOf(5);
                due("hexad(" + five + ")", blocks.hexad(five), reference.hexad(five));
            }
            case 2 -> {
                int p = chance(80) ? Integer.numberOfTrailingZeros(subset(~blocks.count(0), 1)) : below(24);
                int q = chance(80) ? Integer.numberOfTrailingZeros(subset(~blocks.count(0), 1)) : below(24);
                due("turn(" + p + ", " + q + ")", blocks.turn(p, q), reference.turn(p, q));
            }
            case 3 -> {
                int six = chance(70) ? blocks.hexad(subset(blocks.count(0), 5)) : setOf(6);
                due("pair(" + six + ")", blocks.pair(six), reference.pair(six));
            }
            case 4, 5 -> due("undo()", blocks.undo(), reference.undo());
            case 6 -> {
                int what = below(4);
                due("count(" + what + ")", blocks.count(what), reference.count(what));
            }
            case 7 -> {
                int v = random.nextInt() >>> random.nextInt(31);
                due("seed(" + v + ")", blocks.seed(v), reference.seed(v));
            }
            case 8 -> {
                if (chance(40)) {
                    due("image()", blocks.image(), reference.image());
                } else {
                    due("restore()", blocks.restore(), reference.restore());
                }
            }
            default -> {
                int n = chance(60) ? 1 : chance(80) ? 1 + random.nextInt(8) : below(43);
                due("drift(" + n + ")", blocks.drift(n), reference.drift(n));
            }
        }
    }

    private void actOnSheets() {
        int sheet = below(4);
        int lane = chance(60) ? sheet : below(4);
        int i = chance(60) ? below(9) : below(33);
        switch (random.nextInt(6)) {
            case 0 -> {
                int n = chance(60) ? 32 : below(33);
                due("sheet(" + sheet + ", " + lane + ", " + n + ")",
                    blocks.sheet(sheet, lane, n), reference.sheet(sheet, lane, n));
            }
            case 1 -> {
                if (chance(25)) {
                    due("drop(" + sheet + ")", blocks.drop(sheet), reference.drop(sheet));
                }
            }
            case 2, 3 -> {
                long v = chance(60) ? random.nextInt(24) : random.nextLong() >> random.nextInt(60);
                due("item(" + sheet + ", " + lane + ", " + i + ", " + v + ")",
                    blocks.item(sheet, lane, i, v), reference.item(sheet, lane, i, v));
            }
            case 4 -> {
                int m = below(5);
                due("film(" + m + ", " + sheet + ", " + lane + ", " + i + ")",
                    blocks.film(m, sheet, lane, i), reference.film(m, sheet, lane, i));
            }
            default -> {
                int to = chance(50) ? sheet : below(4);
                int j = below(33);
                int n = below(chance(50) ? 4 : 33);
                due("copy(" + sheet + ", " + i + ", " + to + ", " + j + ", " + n + ")",
                    blocks.copy(sheet, i, to, j, n), reference.copy(sheet, i, to, j, n));
            }
        }
    }

    private void retrace() {
        int moves = moves();
        int sheet = chance(95) ? random.nextInt(4) : below(4);
        int lane = chance(95) ? sheet : below(4);
        int i = chance(70) ? 0 : below(33);
        int n = chance(80) ? 1 + random.nextInt(3) : below(9);
        if (chance(70) && sheet >= 0 && sheet < 4) {
            due("sheet(" + sheet + ", " + lane + ", 32)",
                blocks.sheet(sheet, lane, 32), reference.sheet(sheet, lane, 32));
            int guide = random.nextInt(5);
            for (int k = 0; k < n && k < 9; k++) {
                int p = random.nextInt(24);
                int q = chance(90) ? blocks.move(guide, p) : random.nextInt(24);
                due("item", blocks.item(sheet, lane, i + 2 * k, p), reference.item(sheet, lane, i + 2 * k, p));
                due("item", blocks.item(sheet, lane, i + 2 * k + 1, q), reference.item(sheet, lane, i + 2 * k + 1, q));
            }
        }
        due("retrace(" + moves + ", " + sheet + ", " + lane + ", " + i + ", " + n + ")",
            blocks.retrace(moves, sheet, lane, i, n), reference.retrace(moves, sheet, lane, i, n));
        int[] row = blocks.row(4);
        for (int p = 0; p < 24; p++) {
            due("move(4, " + p + ")", row[p], reference.move(4, p));
        }
    }
}
