import java.util.ArrayDeque;
import java.util.ArrayList;
import java.util.Deque;
import java.util.List;

/**
 * All short tapes of a few signs, compared with a machine that goes from sign to sign: what is not allowed at its
 * place is told by the place alone, and not by the way in which a text is read.
 */
public final class TapeTest {
    private static final String SIGNS = " (),*[]^-12az";
    private static final Check CHECK = new Check("TapeTest");

    /** What comes before a sign. */
    private enum Place { FACTOR, BASE, CARET, MINUS, POWER, PARENTHESIS, POINT }

    private Place place = Place.FACTOR;
    private final Deque<int[]> products = new ArrayDeque<>();
    private int[] base;
    private boolean inverse;
    private final List<Integer> cycle = new ArrayList<>();

    public static void main(String[] args) {
        int longest = args.length > 0 ? Integer.parseInt(args[0]) : 5;
        String[] starts = {"", "(", "(2,", "[a", "a^", "a^-", "[[[[[", "[[[[[[a", "(0,1)*(1,2)", "[(0,1,2)"};
        for (String start : starts) {
            tapes(start, start.isEmpty() ? longest : longest - 2);
        }
        CHECK.end();
    }

    /** All tapes that begin in this way, with so many more signs at most. */
    private static void tapes(String start, int more) {
        Bench x = new Bench();
        List<String> tapes = new ArrayList<>(List.of(start));
        for (int k = 0; k < tapes.size(); k++) {
            String tape = tapes.get(k);
            x = x.renewed();
            compare(x, tape);
            for (int sign = 0; tape.length() < start.length() + more && sign < SIGNS.length(); sign++) {
                tapes.add(tape + SIGNS.charAt(sign));
            }
        }
    }

    private static void compare(Bench x, String tape) {
        int want = new TapeTest().run(tape);
        CHECK.due("read of '" + tape + "'", x.reads(0, tape), want);
        if (want > 0) {
            x.undo();
        }
    }

    /** What read(0) is to answer of a new object. */
    private int run(String tape) {
        products.push(row(0));
        int k = 0;
        while (k < tape.length()) {
            int end = k + 1;
            while (end < tape.length() && kind(tape.charAt(k)) != 0 && kind(tape.charAt(end)) == kind(tape.charAt(k))) {
                end++;
            }
            if (tape.charAt(k) != ' ' && !goes(tape.substring(k, end))) {
                return -20 - k;
            }
            k = end;
        }
        if (products.size() > 1 || place != Place.BASE && place != Place.POWER) {
            return -20 - tape.length();
        }
        multiply();
        int elsewhere = 0;
        for (int p = 0; p < 24; p++) {
            elsewhere += products.peek()[p] == step(p) ? 0 : 1;
        }
        return elsewhere;
    }

    /** The signs of one kind that stand together count as a whole: 1 letters, 2 digits; others stand alone. */
    private static int kind(char sign) {
        if (sign >= 'a' && sign <= 'z') {
            return 1;
        }
        return sign >= '0' && sign <= '9' ? 2 : 0;
    }

    /** Goes on by a sign or a run; false if it is not allowed at this place. */
    private boolean goes(String sign) {
        switch (place) {
            case FACTOR:
                return factor(sign);
            case BASE:
                if (sign.equals("^")) {
                    inverse = false;
                    place = Place.CARET;
                    return true;
                }
                return afterFactor(sign);
            case CARET:
                if (sign.equals("-")) {
                    inverse = true;
                    place = Place.MINUS;
                    return true;
                }
                return number(sign);
            case MINUS:
                return number(sign);
            case POWER:
                return afterFactor(sign);
            case PARENTHESIS:
                return point(sign);
            default:
                return afterPoint(sign);
        }
    }

    private boolean factor(String sign) {
        if (sign.equals("a")) {
            base = row(1);
            place = Place.BASE;
            return true;
        }
        if (sign.equals("(")) {
            cycle.clear();
            place = Place.PARENTHESIS;
            return true;
        }
        if (sign.equals("[") && products.size() <= 6) {
            products.push(row(0));
            return true;
        }
        return false;
    }

    private boolean afterFactor(String sign) {
        if (sign.equals("*")) {
            multiply();
            place = Place.FACTOR;
            return true;
        }
        if (sign.equals("]") && products.size() > 1) {
            multiply();
            base = products.pop();
            place = Place.BASE;
            return true;
        }
        return false;
    }

    private boolean number(String sign) {
        if (!sign.matches("[0-9][0-9]?")) {
            return false;
        }
        int[] once = base;
        base = row(0);
        for (int k = Integer.parseInt(sign); k > 0; k--) {
            for (int p = 0; p < 24; p++) {
                base[p] = inverse ? before(once, base[p]) : once[base[p]];
            }
        }
        place = Place.POWER;
        return true;
    }

    private boolean point(String sign) {
        if (!sign.matches("[0-9][0-9]?") || Integer.parseInt(sign) > 23 || cycle.contains(Integer.parseInt(sign))) {
            return false;
        }
        cycle.add(Integer.parseInt(sign));
        place = Place.POINT;
        return true;
    }

    private boolean afterPoint(String sign) {
        if (sign.equals(",")) {
            place = Place.PARENTHESIS;
            return true;
        }
        if (!sign.equals(")")) {
            return false;
        }
        base = row(0);
        for (int k = 0; k < cycle.size(); k++) {
            base[cycle.get(k)] = cycle.get((k + 1) % cycle.size());
        }
        place = Place.BASE;
        return true;
    }

    private void multiply() {
        int[] product = products.peek();
        for (int p = 0; p < 24; p++) {
            product[p] = base[product[p]];
        }
    }

    /** Where the point comes from. */
    private static int before(int[] row, int point) {
        int p = 0;
        while (row[p] != point) {
            p++;
        }
        return p;
    }

    private static int step(int p) {
        return p == 23 ? 23 : (p + 1) % 23;
    }

    /** The identity, or permutation a as it is at first. */
    private static int[] row(int steps) {
        int[] row = new int[24];
        for (int p = 0; p < 24; p++) {
            row[p] = steps == 0 ? p : step(p);
        }
        return row;
    }
}
