import java.math.BigInteger;
import java.util.Arrays;

/** The small system, the changes, and promises 1 and 17 to 26: no changes, six and more, and what a change is. */
final class ChangeBoundaries {
    private static final int ALL = Boundaries.ALL;
    private static final int D = Boundaries.D;
    private final Boundaries b;

    ChangeBoundaries(Boundaries b) {
        this.b = b;
    }

    void test() {
        newObject();
        smallSystem();
        changes();
        latestSix();
        choose();
        hexad();
        turn();
        pair();
        drift();
        turnsOfDrift();
        undo();
        seed();
        count();
        image();
        restore();
    }

    private void newObject() {
        b.promised(1, "Creates a workbench with the permutations told above, the random number 1, an empty tape and "
            + "no sheets; "
            + "no change is kept, and nothing is saved.");
        Bench x = new Bench();
        String[] names = {"step", "twice", "over", "wild", "same"};
        for (int m = 0; m < 5; m++) {
            b.due(names[m], new Bench().reads(0, "[" + names[m] + "*" + (char) ('a' + m) + "^-1]*a"), 0);
        }
        b.due("the random number", x.seed(0), 1);
        b.due("an empty tape", x.read(0), -20);
        b.due("nothing on it", x.type(' '), 1);
        for (int sheet = 0; sheet < 4; sheet++) {
            b.due("no sheet " + sheet, x.drop(sheet), -11);
        }
        b.due("no change", x.count(1), 0);
        b.due("nothing to undo", x.undo(), -4);
        b.due("nothing saved", x.count(3), 0);
        b.due("nothing to restore", x.restore(), -4);
        Bench other = new Bench();
        other.drift(40);
        other.image();
        other.sheet(1, 1, 1);
        other.type('a');
        b.due("objects have nothing in common", new Bench().count(1) + new Bench().count(3), 0);
        b.due("nor sheets", new Bench().drop(1), -11);
        b.due("nor tapes", new Bench().type('a'), 1);
    }

    private void smallSystem() {
        b.described("There is a chosen dodecad D, basis word 0 at first.");
        b.due("D", new Bench().count(0), D);
        b.due("basis word 0", new Bench().block(0, 1), D);
        b.described("A hexad is a set of six points that is the intersection of an octad and D.");
        int[] sets = {D, ALL ^ D, new Bench().block(2, 0), new Bench().block(2, 2575)};
        for (int chosen : sets) {
            int hexads = 0;
            int found = 0;
            Bench x = new Bench();
            x.choose(chosen);
            for (int k = 0; k < 759; k++) {
                x = k % 100 == 0 ? new Bench() : x;
                x.choose(chosen);
                int six = x.block(1, k) & chosen;
                if (Integer.bitCount(six) == 6) {
                    hexads++;
                    found += x.pair(six) == (x.block(1, k) ^ six) ? 1 : 0;
                }
            }
            b.due("the hexads of " + chosen, hexads, 132);
            b.due("their pairs", found, 132);
        }
    }

    private void changes() {
        b.described("Each successful call of read() and choose(), and each turn of drift(), is a change, also if "
            + "nothing "
            + "becomes different.");
        Bench x = new Bench();
        b.due("read, nothing different", x.reads(0, "a"), 0);
        b.due("read", x.count(1), 1);
        b.due("read with an error", x.reads(0, "f"), -20);
        b.due("read of no permutation", x.reads(4, "a"), -1);
        b.due("no more", x.count(1), 1);
        x.read(0);
        b.due("choose", x.choose(ALL ^ D), D);
        b.due("choose", x.count(1), 3);
        b.due("choose D itself", x.choose(ALL ^ D), -2);
        b.due("choose none", x.choose(-1), -1);
        b.due("no more", x.count(1), 3);
        x.drift(0);
        b.due("drift of no turns", x.count(1), 3);
        x.drift(1);
        b.due("one turn", x.count(1), 4);
        x.drift(2);
        b.due("two turns", x.count(1), 6);
        String[] names = {"seed", "sheet", "item", "film", "retrace", "copy", "drop", "image", "restore", "type"};
        Boundaries.Call[] calls = {y -> y.seed(5), y -> y.sheet(0, 0, 24), y -> y.item(0, 0, 0, 0L), y -> y.film(4, 0, 0, 0),
            y -> y.retrace(15, 0, 0, 0, 1), y -> y.copy(0, 0, 0, 1, 3), y -> y.drop(0), y -> y.image(), y -> y.restore(),
            y -> y.type('a')};
        Bench z = new Bench();
        for (int k = 0; k < calls.length; k++) {
            b.holds(names[k] + " is possible", calls[k].on(z) >= 0);
            b.due(names[k] + " is no change", z.count(1), 0);
        }
        // This turn applies the identity and then the identity.
        Bench w = new Bench();
        for (int k = 0; k < 4; k++) {
            w.reads(k, "same");
        }
        b.due("four", w.count(1), 4);
        w.drift(1);
        b.due("permutations as before", w.told(0, 1) + w.told(1, 1) + w.told(2, 1) + w.told(3, 1), 96);
        b.due("a turn without a difference", w.count(1), 5);
    }

    private void latestSix() {
        b.described("The latest six changes are kept and can be undone one by one: the permutations 0 to 4, D and "
            + "the random "
            + "number become as they were before the change, whatever happened since.");
        for (int made = 0; made <= 8; made++) {
            Bench x = new Bench();
            int[] chosen = new int[made + 1];
            chosen[0] = D;
            for (int k = 1; k <= made; k++) {
                x.choose(x.block(2, 300 * k));
                chosen[k] = x.count(0);
            }
            int kept = Math.min(made, 6);
            b.due("kept of " + made, x.count(1), kept);
            for (int k = 1; k <= kept; k++) {
                b.due("undo " + k + " of " + made, x.undo(), kept - k);
                b.due("D then", x.count(0), chosen[made - k]);
            }
            b.due("no more to undo of " + made, x.undo(), -4);
            b.due("D stays", x.count(0), chosen[made - kept]);
        }
        Bench x = new Bench();
        x.seed(77);
        int[][] rows = rows(x);
        x.reads(0, "over");
        x.seed(5);
        x.sheet(0, 0, 2);
        x.item(0, 0, 1, 1L);
        b.due("found", x.retrace(2 | 8 | 1, 0, 0, 0, 1) >= 0 ? 1 : 0, 1);
        b.due("undo", x.undo(), 0);
        b.holds("all five are as before", Arrays.deepEquals(rows(x), rows));
        b.due("the random number", x.seed(0), 77);
        b.due("the sheet stays", x.drop(0), 2);
        dueTurnsBack();
    }

    /** Many turns, and six undone: as if there had been six fewer. */
    private void dueTurnsBack() {
        for (int turns = 6; turns <= 40; turns += 17) {
            Bench x = new Bench();
            x.drift(turns);
            for (int back = 1; back <= 6; back++) {
                b.due("undo " + back, x.undo(), 6 - back);
                Bench fewer = new Bench();
                if (turns > back) {
                    fewer.drift(turns - back);
                }
                b.holds("permutations of " + (turns - back), Arrays.deepEquals(rows(x), rows(fewer)));
                b.due("D of " + (turns - back), x.count(0), fewer.count(0));
                int random = x.seed(0);
                x.seed(random);
                b.due("the random number of " + (turns - back), random, fewer.seed(0));
            }
            b.due("no more", x.undo(), -4);
        }
    }

    private static int[][] rows(Bench x) {
        int[][] rows = new int[5][];
        for (int m = 0; m < 5; m++) {
            rows[m] = x.row(m);
        }
        return rows;
    }

    private void choose() {
        b.promised(17, "BAD if set is out of range");
        b.dueForEach("choose", Boundaries.outside(0, ALL), -1, (x, set) -> x.choose(set));
        b.promised(17, "NOT if it is not a dodecad, or is D already.");
        b.dueForEach("no dodecad", new int[] {0, ALL, 5279, ALL ^ 5279, 4095, D ^ 1, D ^ 3, D ^ 1 ^ 1 << 23}, -2,
            (x, set) -> x.choose(set));
        b.due("D already", new Bench().choose(D), -2);
        Bench x = new Bench();
        b.due("its complement", x.choose(ALL ^ D), D);
        b.due("D already", x.choose(ALL ^ D), -2);
        b.due("back", x.choose(D), ALL ^ D);
        b.due("undone", x.undo(), 1);
        b.due("D again", x.choose(ALL ^ D), -2);
        b.promised(17, "Returns the previous D");
        b.due("the lowest dodecad", x.choose(28637), ALL ^ D);
        b.due("the highest dodecad", x.choose(16748578), 28637);
        b.due("D", x.count(0), 16748578);
    }

    private void hexad() {
        b.promised(18, "BAD if set is out of range");
        b.dueForEach("hexad", Boundaries.outside(0, ALL), -1, (x, set) -> x.hexad(set));
        b.promised(18, "NOT if it does not have five points or they are not all in D.");
        Bench x = new Bench();
        int five = 1 << 5 | 1 << 7 | 1 << 10 | 1 << 11 | 1 << 14;
        int hexad = x.hexad(five);
        b.due("six points", Integer.bitCount(hexad), 6);
        b.due("in D", hexad & ~D, 0);
        b.due("with the five", hexad & five, five);
        b.due("of an octad", x.complete(five) & D, hexad);
        b.due("the last five points", x.hexad(31 << 19) & 31 << 19, 31 << 19);
        int[] wrong = {0, five ^ 1 << 5, hexad, D, ALL, five ^ 1 << 5 ^ 1, five ^ 1 << 14 ^ 1 << 18, five | 1, 31};
        b.dueForEach("hexad", wrong, -2, (y, set) -> y.hexad(set));
        x.choose(ALL ^ D);
        b.due("not in another D", x.hexad(five), -2);
        b.due("but in that one", x.hexad(31) & 31, 31);
    }

    private void turn() {
        b.promised(19, "Finds the hexads that are an octad together with two points outside of D, and returns the "
            + "one of them "
            + "that contains the lowest point of D.");
        Bench x = new Bench();
        int[] outside = {0, 1, 2, 3, 4, 6, 8, 9, 12, 13, 16, 18};
        for (int p : outside) {
            for (int q : outside) {
                if (p < q) {
                    int hexad = x.turn(p, q);
                    b.due("the lowest point of D, 5, for " + p + " and " + q, hexad >> 5 & 1, 1);
                    b.due("an octad together", x.word(hexad | 1 << p | 1 << q, 2) + x.word(hexad, 0), 6);
                }
            }
        }
        b.promised(19, "BAD if p or q is out of range");
        b.dueForEach("p", Boundaries.outside(0, 23), -1, (y, p) -> y.turn(p, 0));
        b.dueForEach("q", Boundaries.outside(0, 23), -1, (y, q) -> y.turn(0, q));
        b.dueForEach("p, with q in D", Boundaries.outside(0, 23), -1, (y, p) -> y.turn(p, 5));
        b.dueForEach("q, with p in D", Boundaries.outside(0, 23), -1, (y, q) -> y.turn(5, q));
        b.dueForEach("both the same", Boundaries.outside(0, 23), -1, (y, p) -> y.turn(p, p));
        b.promised(19, "NOT if one of them is in D or both are the same.");
        Bench z = new Bench();
        for (int p = 0; p < 24; p++) {
            boolean isIn = (D >> p & 1) == 1;
            b.due("both " + p, z.turn(p, p), -2);
            b.holds("p is " + p, (z.turn(p, isIn || p != 0 ? 0 : 1) == -2) == isIn);
            b.holds("q is " + p, (z.turn(isIn || p != 0 ? 0 : 1, p) == -2) == isIn);
        }
        b.due("both in D", z.turn(5, 7), -2);
        z.choose(ALL ^ D);
        b.due("not in another D", z.turn(5, 7) & 1, 1);
        b.due("in that one", z.turn(0, 5), -2);
        b.due("the last point", z.turn(22, 23) & 1, 1);
    }

    private void pair() {
        b.promised(20, "BAD if set is out of range");
        b.dueForEach("pair", Boundaries.outside(0, ALL), -1, (x, set) -> x.pair(set));
        b.promised(20, "NOT if it is not a hexad.");
        Bench x = new Bench();
        int hexad = x.turn(0, 1);
        int five = hexad ^ lowest(hexad);
        int sixth = lowest(D ^ hexad);
        int octad = hexad | 3;
        // Among them six points of D that are no hexad, and six points of an octad that are not all in D.
        int[] wrong = {0, five, hexad | sixth, five | sixth, octad, five | 1, five | 2, D, ALL, ALL ^ D};
        b.dueForEach("pair", wrong, -2, (y, set) -> y.pair(set));
        b.due("the hexad", x.pair(hexad), 3);
        b.due("the other hexad", x.pair(D ^ hexad), 3);
        // An octad that meets D in four points has six that are no hexad.
        for (int k = 0; k < 759; k += 4) {
            int four = x.block(1, k);
            if (Integer.bitCount(four & D) == 4) {
                int away = four & ~D;
                int two = lowest(away) | lowest(away ^ lowest(away));
                b.due("four points of D", x.pair(four ^ two), -2);
            }
        }
        x.choose(ALL ^ D);
        b.due("not of another D", x.pair(hexad), -2);
    }

    private static int lowest(int set) {
        return set & -set;
    }

    private void drift() {
        b.promised(21, "`n`: the number of turns, 1 to 40", "BAD if n is out of range.");
        b.dueForEach("drift", Boundaries.outside(1, 40), -1, (x, n) -> x.drift(n));
        Bench one = new Bench();
        Bench reference = new Bench();
        for (int k = 0; k < 40; k++) {
            reference.drift(1);
        }
        b.due("40 turns", one.drift(40), reference.count(0));
        b.due("40 turns by 40", one.seed(0), reference.seed(0));
        b.holds("permutations", Arrays.deepEquals(rows(one), rows(reference)));
        b.promised(21, "Makes n random turns.", "Returns D then");
        for (int n = 1; n <= 40; n++) {
            Bench x = new Bench();
            Reference y = new Reference();
            b.due("drift(" + n + ")", x.drift(n), y.drift(n));
            b.due("D", x.count(0), y.count(0));
            b.due("changes", x.count(1), Math.min(n, 6));
            b.due("the random number", x.seed(0), y.seed(0));
        }
    }

    private void turnsOfDrift() {
        b.promised(21, "In each of them the random number r becomes (r * 1103515245 + 12345) modulo 2 to the power "
            + "of 31, "
            + "without overflow; let x be r / 65536 and y be x / 8, rounded down.");
        int[] seeds = {0, 1, 2, 3, 65535, 65536, 1 << 30, Boundaries.MAX - 1, Boundaries.MAX, 1103515245, 12345};
        for (int seed : seeds) {
            Bench x = new Bench();
            x.seed(seed);
            x.drift(1);
            b.due("r behind " + seed, x.seed(0), next(seed));
        }
        b.promised(21, "If x modulo 8 is 0, D becomes dodecad y modulo 2576.");
        // The seeds for which r becomes these numbers: y is 0, 1, 2575, 2576, 4095, and the lower bits are all or none.
        int[] ys = {0, 1, 2575, 2576, 2577, 4095};
        for (int y : ys) {
            for (int low : new int[] {0, 65535}) {
                Bench x = new Bench();
                x.seed(before(y << 19 | low));
                b.due("dodecad " + y, x.drift(1), x.block(2, y % 2576));
                b.due("r", x.seed(0), y << 19 | low);
                b.holds("no permutation", Arrays.deepEquals(rows(x), rows(new Bench())));
            }
        }
        b.promised(21, "Otherwise permutation x modulo 4 becomes the one that first applies itself and then "
            + "permutation y "
            + "modulo 5, both as they were before.");
        for (int x8 = 1; x8 < 8; x8++) {
            for (int y : new int[] {0, 1, 2, 3, 4, 5, 4091, 4095}) {
                Bench x = new Bench();
                x.reads(1, "step*over");
                int[][] due = rows(x);
                int[] first = due[x8 % 4].clone();
                for (int p = 0; p < 24; p++) {
                    first[p] = due[y % 5][due[x8 % 4][p]];
                }
                due[x8 % 4] = first;
                x.seed(before(y << 19 | x8 << 16 | 65535));
                b.due("D stays", x.drift(1), D);
                b.holds("x " + x8 + ", y " + y, Arrays.deepEquals(rows(x), due));
            }
        }
    }

    private static int next(int r) {
        return BigInteger.valueOf(r).multiply(BigInteger.valueOf(1103515245)).add(BigInteger.valueOf(12345))
            .mod(BigInteger.ONE.shiftLeft(31)).intValueExact();
    }

    /** The random number before this one. */
    private static int before(int r) {
        BigInteger modulus = BigInteger.ONE.shiftLeft(31);
        return BigInteger.valueOf(r - 12345L).multiply(BigInteger.valueOf(1103515245).modInverse(modulus))
            .mod(modulus).intValueExact();
    }

    private void undo() {
        b.promised(22, "Undoes the latest change that is kept.",
            "Returns how many changes are kept then, or NONE if there is none.");
        Bench x = new Bench();
        b.due("no change yet", x.undo(), -4);
        x.drift(40);
        for (int k = 5; k >= 0; k--) {
            b.due("undo", x.undo(), k);
            b.due("changes", x.count(1), k);
        }
        int chosen = x.count(0);
        b.due("no change any more", x.undo(), -4);
        b.due("D stays", x.count(0), chosen);
        x.choose(chosen == D ? ALL ^ D : D);
        b.due("one again", x.undo(), 0);
        b.due("D", x.count(0), chosen);
        b.due("an undo cannot be undone", x.undo(), -4);
    }

    private void seed() {
        b.promised(23, "`v`: the new random number, 0 or more", "BAD if v is negative.");
        Bench x = new Bench();
        b.due("negative", x.seed(-1), -1);
        b.due("most negative", x.seed(Boundaries.MIN), -1);
        b.promised(23, "Returns the previous one");
        b.due("1 at first", x.seed(0), 1);
        b.due("the lowest", x.seed(Boundaries.MAX), 0);
        b.due("the highest", x.seed(7), Boundaries.MAX);
        x.drift(1);
        b.due("of a drift", x.seed(0), next(7));
    }

    private void count() {
        b.promised(24, "`what`: 0 D, as a set; 1 how many changes are kept; 2 the set of the permutations 0 to 4 "
            + "that preserve "
            + "the code (bit m for permutation m); 3 whether something is saved by image() (1 or 0)");
        Bench x = new Bench();
        int[] due = {D, 0, 31, 0};
        for (int what = 0; what < 4; what++) {
            b.due("count(" + what + ")", x.count(what), due[what]);
        }
        for (int m = 0; m < 4; m++) {
            x.reads(m, "(0,1)");
            b.due("without " + m, x.count(2), 31 ^ (1 << m + 1) - 1);
        }
        b.due("changes", x.count(1), 4);
        x.reads(0, "(0,1)");
        x.reads(0, "(0,1)");
        x.reads(0, "(0,1)");
        b.due("the most changes", x.count(1), 6);
        x.image();
        b.due("saved", x.count(3), 1);
        x.undo();
        b.due("still saved", x.count(3), 1);
        b.promised(24, "BAD if what is not 0 to 3.");
        b.dueForEach("count", Boundaries.outside(0, 3), -1, (y, what) -> y.count(what));
    }

    private void image() {
        b.promised(25, "Saves the permutations, D, the random number and the changes that are kept.", "Returns 1.");
        Bench x = new Bench();
        x.drift(9);
        x.sheet(0, 0, 2);
        x.item(0, 0, 1, 1L);
        x.retrace(0, 0, 0, 0, 1);
        x.reads(0, "over");
        x.seed(55);
        int[][] rows = rows(x);
        int chosen = x.count(0);
        b.due("image()", x.image(), 1);
        x.drift(40);
        x.retrace(15, 0, 0, 0, 1);
        x.undo();
        x.undo();
        b.due("restore()", x.restore(), 1);
        b.holds("the permutations", Arrays.deepEquals(rows(x), rows));
        b.due("D", x.count(0), chosen);
        b.due("the random number", x.seed(1), 55);
        b.due("the changes", x.count(1), 6);
        Bench fewer = new Bench();
        fewer.drift(9);
        for (int k = 5; k >= 0; k--) {
            b.due("undo()", x.undo(), k);
            b.holds("the permutations of before", Arrays.deepEquals(rows(x), rows(fewer)));
            fewer.undo();
        }
        b.promised(25, "What was saved before is lost.");
        Bench y = new Bench();
        y.drift(20);
        y.image();
        Bench z = new Bench();
        b.due("image() of a new object", z.image(), 1);
        z.choose(ALL ^ D);
        b.due("image() again", z.image(), 1);
        z.choose(28637);
        b.due("restore()", z.restore(), 1);
        b.due("the second one", z.count(0), ALL ^ D);
        b.due("its changes", z.count(1), 1);
        z.undo();
        b.due("restore()", z.restore(), 1);
        b.due("the first one is lost", z.count(0), ALL ^ D);
    }

    private void restore() {
        b.promised(26, "Restores what was saved.", "Returns 1, or NONE if nothing is saved.");
        Bench x = new Bench();
        b.due("nothing saved", x.restore(), -4);
        x.drift(3);
        b.due("nothing saved", x.restore(), -4);
        b.due("nothing changed", x.count(1), 3);
        x.image();
        b.due("saved", x.restore(), 1);
        b.due("nothing changed", x.count(1), 3);
        b.promised(26, "It stays saved.");
        int chosen = x.count(0);
        int[][] rows = rows(x);
        for (int k = 0; k < 4; k++) {
            x.drift(5 + k);
            x.seed(k);
            b.due("restore() " + k, x.restore(), 1);
            b.due("D", x.count(0), chosen);
            b.due("changes", x.count(1), 3);
            b.holds("the permutations", Arrays.deepEquals(rows(x), rows));
            b.due("saved", x.count(3), 1);
            b.due("undo", x.undo(), 2);
        }
        x.types("sa");
        x.sheet(2, 3, 7);
        x.restore();
        b.due("the tape is not saved", x.type('!'), 3);
        b.due("the sheets are not saved", x.drop(2), 7);
    }
}
