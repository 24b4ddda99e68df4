import java.math.BigInteger;
import java.util.ArrayDeque;
import java.util.ArrayList;
import java.util.Arrays;
import java.util.Deque;
import java.util.List;
import java.util.Random;
import java.util.regex.Matcher;
import java.util.regex.Pattern;

/**
 * Long runs of calls, the same ones each time, on the class and on a slow second program that
 * follows the document's definitions word by word: equations are solved, not expanded.
 */
public final class ModelTest {
    private static final int RUNS = 400;
    private static int wrong;

    public static void main(String[] args) {
        int calls = 0;
        for (int run = 0; run < RUNS && wrong < 20; run++) {
            calls += new Run(run).go();
        }
        System.out.println(calls + " calls beside the model, " + wrong + " not as due");
        if (wrong != 0) {
            System.exit(1);
        }
    }

    /** One run of 512 calls on a new object. */
    private static final class Run {
        private final int number;
        private final Random random;
        private final SquaredRows real = new SquaredRows();
        private final Model model = new Model();
        private final Deque<Integer> pending = new ArrayDeque<>();
        private int calls;

        Run(int number) {
            this.number = number;
            random = new Random(977L * number + 5);
        }

        int go() {
            calls = 0;
            while (calls < 512) {
                boolean fresh = pending.isEmpty() && (calls == 0 || random.nextInt(60) == 0);
                if (!(fresh ? rebuild() : one())) {
                    break;
                }
            }
            return calls;
        }

        /** A row of many moments: of told places, of great numbers, or of any. */
        private boolean rebuild() {
            int[] moments = new int[7];
            int style = random.nextInt(4);
            for (int place = 0; style < 2 && place < 1 + random.nextInt(5); place++) {
                int x = random.nextInt(5) - 2;
                int w = 1 + random.nextInt(style == 0 ? 2 : 60);
                for (int j = 0, power = w; j < 7; j++, power *= x) {
                    moments[j] = Math.max(-500, Math.min(500, moments[j] + power));
                }
            }
            for (int j = 0; style == 2 && j < 7; j++) {
                moments[j] = j % 2 == 0 ? 100 + random.nextInt(401) : random.nextInt(101) - 50;
            }
            for (int j = 0; style == 3 && j < 7; j++) {
                moments[j] = random.nextBoolean() ? 500 : -500 + random.nextInt(20);
            }
            int size = random.nextInt(3) == 0 ? 1 + random.nextInt(7) : 7;
            for (int j = 0; j < size; j++) {
                int v = moments[j];
                boolean same = j < model.row.size()
                        ? same("moment(" + j + ", " + v + ")", real.moment(j, v),
                                model.moment(j, v))
                        : same("more(" + v + ")", real.more(v), model.more(v));
                if (!same) {
                    return false;
                }
            }
            return true;
        }

        private boolean one() {
            if (!pending.isEmpty()) {
                int c = pending.removeFirst();
                if (c == -1) {
                    return same("clear()", real.clear(), model.clear());
                }
                if (c == -2) {
                    return same("reads()", real.reads(), model.reads());
                }
                return same("type(" + c + ")", real.type(c), model.type(c));
            }
            int kind = random.nextInt(100);
            if (kind < 6) {
                writeText();
                return true;
            }
            return kind < 30 ? change() : ask();
        }

        private void writeText() {
            pending.add(-1);
            String text = Texts.make(random);
            for (int i = 0; i < text.length(); i++) {
                pending.add((int) text.charAt(i));
            }
            pending.add(-2);
        }

        /** Mostly within -most .. most, at times at the edge or beyond. */
        private int near(int most) {
            int kind = random.nextInt(30);
            if (kind == 0) {
                return most + 1;
            }
            if (kind == 1) {
                return -most - 1;
            }
            if (kind == 2) {
                return random.nextBoolean() ? most : -most;
            }
            if (kind == 3) {
                return random.nextInt();
            }
            return random.nextInt(2 * most + 1) - most;
        }

        /** Mostly within least .. most, at times one beyond. */
        private int from(int least, int most) {
            int kind = random.nextInt(40);
            if (kind == 0) {
                return least - 1;
            }
            if (kind == 1) {
                return most + 1;
            }
            if (kind == 2) {
                return random.nextInt();
            }
            return least + random.nextInt(most - least + 1);
        }

        private int small(int most) {
            return random.nextInt(4) == 0 ? near(most) : random.nextInt(7) - 3;
        }

        private boolean change() {
            int a;
            int b;
            switch (random.nextInt(9)) {
                case 0:
                    a = from(0, 6);
                    b = random.nextInt(3) == 0 ? near(500) : small(500);
                    return same("moment(" + a + ", " + b + ")", real.moment(a, b),
                            model.moment(a, b));
                case 1:
                case 2:
                    a = random.nextInt(3) == 0 ? near(500) : small(500);
                    return same("more(" + a + ")", real.more(a), model.more(a));
                case 3:
                    return same("less()", real.less(), model.less());
                case 4:
                    a = small(9);
                    b = random.nextInt(2) == 0 ? small(99) : random.nextInt(5);
                    return same("adds(" + a + ", " + b + ")", real.adds(a, b), model.adds(a, b));
                case 5:
                    a = random.nextInt(3) == 0 ? near(9) : random.nextInt(3) - 1;
                    return same("moves(" + a + ")", real.moves(a), model.moves(a));
                case 6:
                    a = random.nextInt(3) == 0 ? near(9) : random.nextInt(5) - 2;
                    return same("stretches(" + a + ")", real.stretches(a), model.stretches(a));
                case 7:
                    a = random.nextInt(3) == 0 ? near(9) : random.nextInt(5) - 2;
                    return same("weighs(" + a + ")", real.weighs(a), model.weighs(a));
                default:
                    return same("back()", real.back(), model.back());
            }
        }

        private int places() {
            if (random.nextInt(20) == 0) {
                return random.nextInt();
            }
            int set = 0;
            int many = 1 + random.nextInt(random.nextInt(4) == 0 ? 8 : 4);
            int spread = random.nextBoolean() ? 3 : 9;
            for (int i = 0; i < many; i++) {
                set |= 1 << (random.nextInt(2 * spread + 1) - spread + 9);
            }
            return set;
        }

        private boolean ask() {
            int n = from(0, 3);
            int what = random.nextInt(30) == 0 ? from(-1, 2) : random.nextInt(2);
            int a = random.nextBoolean() ? near(99) : small(20);
            int b = from(1, 9);
            int c;
            switch (random.nextInt(18)) {
                case 0:
                    c = from(0, 6);
                    return same("of(" + c + ")", real.of(c), model.of(c));
                case 1:
                    c = from(0, 6);
                    n = from(0, 4);
                    return same("determinant(" + c + ", " + n + ")", real.determinant(c, n),
                            model.determinant(c, n));
                case 2:
                    c = from(0, 3);
                    return same("polynomial(" + n + ", " + c + ", " + what + ")",
                            real.polynomial(n, c, what), model.polynomial(n, c, what));
                case 3:
                    return same("norm(" + n + ", " + what + ")", real.norm(n, what),
                            model.norm(n, what));
                case 4:
                case 5:
                    c = from(0, 1);
                    return same("rule(" + c + ", " + n + ", " + what + ")", real.rule(c, n, what),
                            model.rule(c, n, what));
                case 6:
                    c = from(0, 3);
                    return same("verdict(" + c + ")", real.verdict(c), model.verdict(c));
                case 7:
                    return same("value(" + n + ", " + a + ", " + b + ", " + what + ")",
                            real.value(n, a, b, what), model.value(n, a, b, what));
                case 8:
                    return same("under(" + n + ", " + a + ", " + b + ")", real.under(n, a, b),
                            model.under(n, a, b));
                case 9:
                case 10:
                    c = n > 0 && n < 4 ? random.nextInt(n) : from(0, 2);
                    return same("zero(" + n + ", " + c + ", " + b + ")", real.zero(n, c, b),
                            model.zero(n, c, b));
                case 11:
                case 12:
                    return weights(what);
                case 13:
                case 14:
                    a = random.nextBoolean() ? near(20) : small(20);
                    b = from(1, 4);
                    return same("fraction(" + n + ", " + a + ", " + b + ", " + what + ")",
                            real.fraction(n, a, b, what), model.fraction(n, a, b, what));
                case 15:
                    c = from(1, 6);
                    return same("step(" + c + ", " + what + ")", real.step(c, what),
                            model.step(c, what));
                case 16:
                    c = from(0, 5);
                    return same("told(" + c + ")", real.told(c), model.told(c));
                default:
                    return same("digest()", real.digest(), model.digest());
            }
        }

        private boolean weights(int what) {
            int set = places();
            int x = random.nextInt(12) == 0 ? near(9)
                    : Integer.numberOfTrailingZeros(set) - 9;
            if (random.nextBoolean() && set > 0) {
                x = 31 - Integer.numberOfLeadingZeros(set) - 9;
            }
            return same("weight(" + set + ", " + x + ", " + what + ")", real.weight(set, x, what),
                    model.weight(set, x, what))
                    && same("exact(" + set + ")", real.exact(set), model.exact(set));
        }

        private boolean same(String call, long got, long want) {
            calls++;
            if (got == want) {
                return true;
            }
            wrong++;
            System.out.println("run " + number + ", row " + model.row + ", text '" + model.text
                    + "': " + call + " answered " + got + ", due is " + want);
            return false;
        }
    }

    /** Texts that are right, or right but for a byte or two. */
    private static final class Texts {
        static String make(Random random) {
            StringBuilder text = new StringBuilder();
            int orders = random.nextInt(random.nextInt(6) == 0 ? 30 : 6);
            for (int i = 0; i < orders; i++) {
                order(random, text);
            }
            blanks(random, text);
            int faults = random.nextInt(3) == 0 ? 1 + random.nextInt(2) : 0;
            for (int i = 0; i < faults && text.length() > 0; i++) {
                spoil(random, text);
            }
            return text.length() > 105 ? text.substring(0, 105) : text.toString();
        }

        private static void spoil(Random random, StringBuilder text) {
            int place = random.nextInt(text.length());
            String signs = "mpvswkl0123456789-  ;;xM\u0000\u007f";
            char sign = signs.charAt(random.nextInt(signs.length()));
            int kind = random.nextInt(4);
            if (kind == 0) {
                text.deleteCharAt(place);
            } else if (kind == 1) {
                text.setCharAt(place, sign);
            } else if (kind == 2) {
                text.insert(place, sign);
            } else {
                text.setLength(place);
            }
        }

        private static void blanks(Random random, StringBuilder text) {
            int many = random.nextInt(4) == 0 ? random.nextInt(3) : 0;
            for (int i = 0; i < many; i++) {
                text.append(' ');
            }
        }

        private static void order(Random random, StringBuilder text) {
            char letter = "mpvswkl".charAt(random.nextInt(7));
            blanks(random, text);
            text.append(letter);
            int numbers = letter == 'm' ? 1 + random.nextInt(7) : letter == 'p' ? 2
                    : letter == 'l' ? 0 : 1;
            if (random.nextInt(40) == 0) {
                numbers += random.nextInt(3) - 1;
            }
            for (int i = 0; i < numbers; i++) {
                blanks(random, text);
                int v = random.nextInt(12) == 0 ? random.nextInt(2000) - 1000
                        : random.nextInt(5) - 2;
                String figures = random.nextInt(12) == 0 && v >= 0 ? "0" + v : "" + v;
                boolean needed = i > 0 && v >= 0;
                if (needed || random.nextInt(3) == 0) {
                    text.append(' ');
                }
                text.append(figures);
            }
            blanks(random, text);
            text.append(';');
        }
    }

    /** A fraction in lowest terms, below above 0. */
    private static final class Ratio {
        static final Ratio ZERO = of(0);
        static final Ratio ONE = of(1);
        final BigInteger above;
        final BigInteger below;

        Ratio(BigInteger above, BigInteger below) {
            BigInteger divisor = above.gcd(below);
            if (below.signum() < 0) {
                divisor = divisor.negate();
            }
            this.above = above.divide(divisor);
            this.below = below.divide(divisor);
        }

        static Ratio of(long v) {
            return new Ratio(BigInteger.valueOf(v), BigInteger.ONE);
        }

        Ratio plus(Ratio o) {
            return new Ratio(above.multiply(o.below).add(o.above.multiply(below)),
                    below.multiply(o.below));
        }

        Ratio minus(Ratio o) {
            return plus(new Ratio(o.above.negate(), o.below));
        }

        Ratio times(Ratio o) {
            return new Ratio(above.multiply(o.above), below.multiply(o.below));
        }

        Ratio by(Ratio o) {
            return new Ratio(above.multiply(o.below), below.multiply(o.above));
        }

        int sign() {
            return above.signum();
        }

        long told(int what) {
            return (what == 0 ? above : below).longValueExact();
        }
    }

    private static final class Model {
        private static final int NONE = -1000000, BAD = -1000001, NO = -1000002, FULL = -1000003;
        private static final String NUMBER = "-?[0-9]{1,3}";
        private static final String NEXT = "(?: *-[0-9]{1,3}| +[0-9]{1,3})";
        private static final String ORDER = "(?:m *" + NUMBER + NEXT + "{0,6}|p *" + NUMBER + NEXT
                + "|[vswk] *" + NUMBER + "|l)";
        private static final Pattern WHOLE = Pattern.compile("(?: *" + ORDER + " *;)+ *");
        /** Each beginning of a text can be ended by one of these, or by none at all. */
        private static final String[] ENDS = {"", ";", "1;", " 1;", "1 1;", " 1 1;", "l;"};

        private List<Integer> row = new ArrayList<>(List.of(1));
        private String text = "";
        private final List<List<Integer>> states = new ArrayList<>();
        private final int[] refused = new int[3];

        private int no(int code) {
            refused[code == BAD ? 0 : code == NO ? 1 : 2]++;
            return code;
        }

        private static boolean out(int v, int least, int most) {
            return v < least || v > most;
        }

        private void keep(List<Integer> next) {
            states.add(row);
            if (states.size() > 6) {
                states.remove(0);
            }
            row = next;
        }

        // The changes answer null where they are refused, with the code in why.
        private int why;

        private List<Integer> refuse(int code) {
            why = code;
            return null;
        }

        private List<Integer> checked(List<BigInteger> next) {
            List<Integer> result = new ArrayList<>();
            for (BigInteger v : next) {
                if (v.abs().compareTo(BigInteger.valueOf(500)) > 0) {
                    return refuse(NO);
                }
                result.add(v.intValueExact());
            }
            return result;
        }

        private static BigInteger big(long v) {
            return BigInteger.valueOf(v);
        }

        private List<Integer> added(List<Integer> r, int x, int w) {
            if (out(x, -9, 9) || out(w, -99, 99)) {
                return refuse(BAD);
            }
            List<BigInteger> next = new ArrayList<>();
            for (int j = 0; j < r.size(); j++) {
                next.add(big(r.get(j)).add(big(w).multiply(big(x).pow(j))));
            }
            return checked(next);
        }

        private List<Integer> moved(List<Integer> r, int c) {
            if (out(c, -9, 9)) {
                return refuse(BAD);
            }
            List<BigInteger> next = new ArrayList<>();
            for (int j = 0; j < r.size(); j++) {
                BigInteger sum = BigInteger.ZERO;
                BigInteger choose = BigInteger.ONE;
                for (int i = 0; i <= j; i++) {
                    sum = sum.add(choose.multiply(big(c).pow(j - i)).multiply(big(r.get(i))));
                    choose = choose.multiply(big(j - i)).divide(big(i + 1));
                }
                next.add(sum);
            }
            return checked(next);
        }

        private List<Integer> stretched(List<Integer> r, int c) {
            if (out(c, -9, 9)) {
                return refuse(BAD);
            }
            List<BigInteger> next = new ArrayList<>();
            for (int j = 0; j < r.size(); j++) {
                next.add(big(c).pow(j).multiply(big(r.get(j))));
            }
            return checked(next);
        }

        private List<Integer> weighed(List<Integer> r, int c) {
            if (out(c, -9, 9)) {
                return refuse(BAD);
            }
            if (r.size() == 1) {
                return refuse(NO);
            }
            List<BigInteger> next = new ArrayList<>();
            for (int j = 0; j + 1 < r.size(); j++) {
                next.add(big(r.get(j + 1)).subtract(big(c).multiply(big(r.get(j)))));
            }
            return checked(next);
        }

        private List<Integer> longer(List<Integer> r, int v) {
            if (out(v, -500, 500)) {
                return refuse(BAD);
            }
            if (r.size() == 7) {
                return refuse(FULL);
            }
            List<Integer> next = new ArrayList<>(r);
            next.add(v);
            return next;
        }

        private List<Integer> shorter(List<Integer> r) {
            return r.size() == 1 ? refuse(NO) : new ArrayList<>(r.subList(0, r.size() - 1));
        }

        private boolean done(List<Integer> next) {
            if (next == null) {
                no(why);
                return false;
            }
            keep(next);
            return true;
        }

        int moment(int j, int v) {
            if (out(j, 0, row.size() - 1) || out(v, -500, 500)) {
                return no(BAD);
            }
            int was = row.get(j);
            List<Integer> next = new ArrayList<>(row);
            next.set(j, v);
            keep(next);
            return was;
        }

        int more(int v) {
            return done(longer(row, v)) ? row.size() : why;
        }

        int less() {
            return done(shorter(row)) ? row.size() : why;
        }

        int adds(int x, int w) {
            return done(added(row, x, w)) ? row.get(0) : why;
        }

        int moves(int c) {
            return done(moved(row, c)) ? row.get(row.size() - 1) : why;
        }

        int stretches(int c) {
            return done(stretched(row, c)) ? row.get(row.size() - 1) : why;
        }

        int weighs(int c) {
            return done(weighed(row, c)) ? row.get(0) : why;
        }

        int of(int j) {
            return out(j, 0, row.size() - 1) ? no(BAD) : row.get(j);
        }

        // ---- fractions, polynomials (lists of numbers from x to the 0 on)

        private Ratio mean(List<Ratio> p) {
            Ratio sum = Ratio.ZERO;
            for (int j = 0; j < p.size(); j++) {
                if (p.get(j).sign() != 0) {
                    sum = sum.plus(p.get(j).times(Ratio.of(row.get(j))));
                }
            }
            return sum;
        }

        private static List<Ratio> times(List<Ratio> p, List<Ratio> q) {
            List<Ratio> result = new ArrayList<>();
            for (int i = 0; i < p.size() + q.size() - 1; i++) {
                result.add(Ratio.ZERO);
            }
            for (int i = 0; i < p.size(); i++) {
                for (int j = 0; j < q.size(); j++) {
                    result.set(i + j, result.get(i + j).plus(p.get(i).times(q.get(j))));
                }
            }
            return result;
        }

        private static List<Ratio> x(int j) {
            List<Ratio> result = new ArrayList<>();
            for (int i = 0; i < j; i++) {
                result.add(Ratio.ZERO);
            }
            result.add(Ratio.ONE);
            return result;
        }

        private static Ratio at(List<Ratio> p, Ratio x) {
            Ratio sum = Ratio.ZERO;
            Ratio power = Ratio.ONE;
            for (Ratio number : p) {
                sum = sum.plus(number.times(power));
                power = power.times(x);
            }
            return sum;
        }

        /** The one solution of as many equations as unknowns, each with its right side behind. */
        private static List<Ratio> solve(Ratio[][] lines) {
            int n = lines.length;
            for (int c = 0; c < n; c++) {
                int pivot = c;
                while (pivot < n && lines[pivot][c].sign() == 0) {
                    pivot++;
                }
                if (pivot == n) {
                    return null;
                }
                Ratio[] swap = lines[c];
                lines[c] = lines[pivot];
                lines[pivot] = swap;
                for (int i = 0; i < n; i++) {
                    if (i != c && lines[i][c].sign() != 0) {
                        Ratio factor = lines[i][c].by(lines[c][c]);
                        for (int k = c; k <= n; k++) {
                            lines[i][k] = lines[i][k].minus(factor.times(lines[c][k]));
                        }
                    }
                }
            }
            List<Ratio> result = new ArrayList<>();
            for (int i = 0; i < n; i++) {
                result.add(lines[i][n].by(lines[i][i]));
            }
            return result;
        }

        private boolean there(int s, int n) {
            return n == 0 || row.size() > s + 2 * (n - 1);
        }

        private Ratio det(int s, int n) {
            int[] order = new int[n];
            for (int i = 0; i < n; i++) {
                order[i] = i;
            }
            return Ratio.of(permute(s, order, 0, 1));
        }

        private long permute(int s, int[] order, int from, int sign) {
            if (from == order.length) {
                long product = sign;
                for (int i = 0; i < order.length; i++) {
                    product = Math.multiplyExact(product, (long) row.get(s + i + order[i]));
                }
                return product;
            }
            long sum = 0;
            for (int i = from; i < order.length; i++) {
                int[] next = order.clone();
                next[from] = order[i];
                next[i] = order[from];
                sum = Math.addExact(sum, permute(s, next, from + 1, i == from ? sign : -sign));
            }
            return sum;
        }

        private List<Ratio> p(int n) {
            if (n > 0 && row.size() < 2 * n) {
                return null;
            }
            Ratio[][] lines = new Ratio[n][n + 1];
            for (int j = 0; j < n; j++) {
                for (int i = 0; i < n; i++) {
                    lines[j][i] = Ratio.of(row.get(i + j));
                }
                lines[j][n] = Ratio.of(-row.get(n + j));
            }
            List<Ratio> result = solve(lines);
            if (result != null) {
                result.add(Ratio.ONE);
            }
            return result;
        }

        private Ratio normOf(int n) {
            List<Ratio> p = p(n);
            return p == null || row.size() <= 2 * n ? null : mean(times(p, p));
        }

        long determinant(int s, int n) {
            if (out(s, 0, 6) || out(n, 0, 4)) {
                return no(BAD);
            }
            return there(s, n) ? det(s, n).told(0) : no(NO);
        }

        long polynomial(int n, int j, int what) {
            if (out(n, 0, 3) || out(j, 0, n) || out(what, 0, 1)) {
                return no(BAD);
            }
            List<Ratio> p = p(n);
            return p == null ? no(NO) : p.get(j).told(what);
        }

        long norm(int n, int what) {
            if (out(n, 0, 3) || out(what, 0, 1)) {
                return no(BAD);
            }
            Ratio norm = normOf(n);
            return norm == null ? no(NO) : norm.told(what);
        }

        long rule(int which, int n, int what) {
            if (out(which, 0, 1) || out(n, which == 0 ? 0 : 1, 2) || out(what, 0, 1)) {
                return no(BAD);
            }
            List<Ratio> before = n == 0 ? List.of(Ratio.ZERO) : p(n - 1);
            List<Ratio> p = p(n);
            List<Ratio> next = p(n + 1);
            if (before == null || p == null || next == null) {
                return no(NO);
            }
            Ratio a = mean(times(x(1), times(p, p))).by(normOf(n));
            Ratio b = n == 0 ? Ratio.ZERO : normOf(n).by(normOf(n - 1));
            List<Ratio> right = times(List.of(Ratio.ZERO.minus(a), Ratio.ONE), p);
            for (int j = 0; j <= n + 1; j++) {
                Ratio number = right.get(j);
                if (j < before.size()) {
                    number = number.minus(b.times(before.get(j)));
                }
                if (number.minus(next.get(j)).sign() != 0) {
                    throw new IllegalStateException("the rule does not hold for " + row);
                }
            }
            return (which == 0 ? a : b).told(what);
        }

        private int[] verdicts() {
            int n = 0;
            for (; n <= 3 && row.size() > 2 * n; n++) {
                int sign = normOf(n).sign();
                if (sign < 0) {
                    return new int[] {0, n, 0, NONE};
                }
                if (sign == 0) {
                    for (int j = n + 1; j <= row.size() - 1 - n; j++) {
                        if (mean(times(p(n), x(j))).sign() != 0) {
                            return new int[] {0, n, 1, j};
                        }
                    }
                    return new int[] {1, n, NONE, NONE};
                }
            }
            return new int[] {2, n, NONE, NONE};
        }

        int verdict(int what) {
            return out(what, 0, 3) ? no(BAD) : verdicts()[what];
        }

        long value(int n, int a, int b, int what) {
            if (out(n, 0, 3) || out(a, -99, 99) || out(b, 1, 9) || out(what, 0, 1)) {
                return no(BAD);
            }
            List<Ratio> p = p(n);
            return p == null ? no(NO) : at(p, Ratio.of(a).by(Ratio.of(b))).told(what);
        }

        private List<Ratio> realZeros(int n) {
            List<Ratio> p = p(n);
            for (int i = 0; i < n && p != null; i++) {
                Ratio norm = normOf(i);
                if (norm == null || norm.sign() <= 0) {
                    return null;
                }
            }
            return p;
        }

        /**
         * Zeros below x, all being real: P at x less y has as many zeros y above 0 as its
         * numbers change their signs.
         */
        private static int below(List<Ratio> p, Ratio x) {
            List<Ratio> turned = new ArrayList<>(List.of(Ratio.ZERO));
            List<Ratio> line = List.of(x, Ratio.of(-1));
            for (int j = p.size() - 1; j >= 0; j--) {
                turned = times(turned, line);
                turned.set(0, turned.get(0).plus(p.get(j)));
            }
            int changes = 0;
            int last = 0;
            for (Ratio number : turned) {
                if (number.sign() != 0) {
                    changes += last != 0 && last != number.sign() ? 1 : 0;
                    last = number.sign();
                }
            }
            return changes;
        }

        int under(int n, int a, int b) {
            if (out(n, 1, 3) || out(a, -99, 99) || out(b, 1, 9)) {
                return no(BAD);
            }
            List<Ratio> p = realZeros(n);
            return p == null ? no(NO) : below(p, Ratio.of(a).by(Ratio.of(b)));
        }

        int zero(int n, int i, int p) {
            if (out(n, 1, 3) || out(i, 0, n - 1) || out(p, 1, 9)) {
                return no(BAD);
            }
            List<Ratio> polynomial = realZeros(n);
            if (polynomial == null) {
                return no(NO);
            }
            // Where the i-th zero is below one part's end first: whole parts of one by one.
            if (below(polynomial, Ratio.of(-99)) > i) {
                return NONE;
            }
            for (int whole = -99; whole < 99; whole++) {
                if (below(polynomial, Ratio.of(whole + 1)) > i) {
                    for (int z = whole * p;; z++) {
                        if (below(polynomial, Ratio.of(z + 1).by(Ratio.of(p))) > i) {
                            return z;
                        }
                    }
                }
            }
            return NONE;
        }

        private static boolean isSet(int places) {
            return places > 0 && places < 1 << 19 && Integer.bitCount(places) <= 7;
        }

        private static List<Integer> placesOf(int places) {
            List<Integer> result = new ArrayList<>();
            for (int i = 0; i < 19; i++) {
                if ((places >> i & 1) == 1) {
                    result.add(i - 9);
                }
            }
            return result;
        }

        private List<Ratio> weights(List<Integer> places) {
            int n = places.size();
            Ratio[][] lines = new Ratio[n][n + 1];
            for (int j = 0; j < n; j++) {
                for (int i = 0; i < n; i++) {
                    lines[j][i] = new Ratio(big(places.get(i)).pow(j), BigInteger.ONE);
                }
                lines[j][n] = Ratio.of(row.get(j));
            }
            return solve(lines);
        }

        long weight(int places, int x, int what) {
            if (!isSet(places) || !placesOf(places).contains(x) || out(what, 0, 1)) {
                return no(BAD);
            }
            List<Integer> list = placesOf(places);
            return list.size() > row.size() ? no(NO)
                    : weights(list).get(list.indexOf(x)).told(what);
        }

        int exact(int places) {
            if (!isSet(places)) {
                return no(BAD);
            }
            List<Integer> list = placesOf(places);
            if (list.size() > row.size()) {
                return no(NO);
            }
            List<Ratio> weights = weights(list);
            int e = -1;
            for (int j = 0; j < row.size(); j++) {
                Ratio sum = Ratio.ZERO;
                for (int i = 0; i < list.size(); i++) {
                    sum = sum.plus(weights.get(i).times(
                            new Ratio(big(list.get(i)).pow(j), BigInteger.ONE)));
                }
                if (sum.minus(Ratio.of(row.get(j))).sign() != 0) {
                    break;
                }
                e = j;
            }
            return e;
        }

        long fraction(int n, int a, int b, int what) {
            if (out(n, 1, 3) || out(a, -20, 20) || out(b, 1, 4) || out(what, 0, 1)) {
                return no(BAD);
            }
            List<Ratio> p = p(n);
            Ratio x = Ratio.of(a).by(Ratio.of(b));
            if (p == null || at(p, x).sign() == 0) {
                return no(NO);
            }
            // x to the j less y to the j, by x less y: the sum of x to the (j - 1 - i) y to the i.
            List<Ratio> ofY = new ArrayList<>();
            for (int i = 0; i < n; i++) {
                Ratio sum = Ratio.ZERO;
                for (int j = i + 1; j <= n; j++) {
                    Ratio power = at(x(j - 1 - i), x);
                    sum = sum.plus(p.get(j).times(power));
                }
                ofY.add(sum);
            }
            return mean(ofY).by(at(p, x)).told(what);
        }

        long step(int k, int what) {
            if (out(k, 1, 6) || out(what, 0, 1)) {
                return no(BAD);
            }
            int i = k % 2 == 1 ? (k + 1) / 2 : k / 2;
            int[][] four = k % 2 == 1 ? new int[][] {{1, i}, {0, i - 1}, {0, i}, {1, i - 1}}
                    : new int[][] {{0, i + 1}, {1, i - 1}, {0, i}, {1, i}};
            Ratio[] dets = new Ratio[4];
            for (int d = 0; d < 4; d++) {
                if (!there(four[d][0], four[d][1])) {
                    return no(NO);
                }
                dets[d] = det(four[d][0], four[d][1]);
            }
            if (dets[2].sign() == 0 || dets[3].sign() == 0) {
                return no(NO);
            }
            return dets[0].times(dets[1]).by(dets[2].times(dets[3])).told(what);
        }

        // ---- texts

        int type(int c) {
            if (out(c, 0, 127)) {
                return no(BAD);
            }
            if (text.length() == 100) {
                return no(FULL);
            }
            text += (char) c;
            return text.length();
        }

        int clear() {
            int had = text.length();
            text = "";
            return had;
        }

        private static boolean canGoOn(String beginning) {
            for (String end : ENDS) {
                if (WHOLE.matcher(beginning + end).matches()) {
                    return true;
                }
            }
            return false;
        }

        int reads() {
            for (int place = 0; place < text.length(); place++) {
                if (!canGoOn(text.substring(0, place + 1))) {
                    return -10 - place;
                }
            }
            if (!WHOLE.matcher(text).matches()) {
                return -10 - text.length();
            }
            List<Integer> r = row;
            int done = 0;
            for (String order : text.substring(0, text.lastIndexOf(';')).split(";", -1)) {
                r = after(r, order.trim());
                if (r == null) {
                    return -1000 - done;
                }
                done++;
            }
            keep(r);
            return done;
        }

        private List<Integer> after(List<Integer> r, String order) {
            List<Integer> numbers = new ArrayList<>();
            Matcher matcher = Pattern.compile(NUMBER).matcher(order);
            while (matcher.find()) {
                numbers.add(Integer.valueOf(matcher.group()));
            }
            switch (order.charAt(0)) {
                case 'm':
                    for (int v : numbers) {
                        if (out(v, -500, 500)) {
                            return null;
                        }
                    }
                    return numbers;
                case 'p':
                    return added(r, numbers.get(0), numbers.get(1));
                case 'v':
                    return moved(r, numbers.get(0));
                case 's':
                    return stretched(r, numbers.get(0));
                case 'w':
                    return weighed(r, numbers.get(0));
                case 'k':
                    return longer(r, numbers.get(0));
                default:
                    return shorter(r);
            }
        }

        int back() {
            if (states.isEmpty()) {
                return no(NO);
            }
            row = states.remove(states.size() - 1);
            return states.size();
        }

        private int[] tallies() {
            return new int[] {refused[0], refused[1], refused[2], text.length(), row.size(),
                states.size()};
        }

        int told(int what) {
            return out(what, 0, 5) ? no(BAD) : tallies()[what];
        }

        long digest() {
            List<Long> values = new ArrayList<>();
            for (int v : tallies()) {
                values.add((long) v);
            }
            for (int v : row) {
                values.add((long) v);
            }
            Arrays.stream(verdicts()).forEach(v -> values.add((long) v));
            for (int n = 0; n <= 4; n++) {
                if (there(0, n)) {
                    values.add(det(0, n).told(0));
                }
            }
            for (int n = 0; n <= 3; n++) {
                List<Ratio> p = p(n);
                for (int j = 0; p != null && j < n; j++) {
                    values.add(p.get(j).told(0));
                    values.add(p.get(j).told(1));
                }
            }
            long h = 2357;
            for (long v : values) {
                h = 31 * h + v;
            }
            return h;
        }
    }
}
