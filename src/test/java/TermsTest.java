import java.util.Arrays;
import java.util.function.Supplier;

/** The sentences of the document's terms that name a boundary, each from both sides. */
public final class TermsTest {
    private static final int NONE = Check.NONE, BAD = Check.BAD, NO = Check.NO, FULL = Check.FULL;
    private static final Check CHECK = new Check();
    /** All norms of it are above 0. */
    private static final int[] MANY = {4, 0, 4, 0, 6, 0, 16};

    public static void main(String[] args) {
        rowSize();
        momentBounds();
        tableBounds();
        tableThere();
        tableOfGreatNumbers();
        polynomialSize();
        polynomialDeterminant();
        normSize();
        normSigns();
        ruleSize();
        ruleParts();
        verdictNorms();
        verdictSquares();
        verdictRests();
        verdictLeastRest();
        zerosNorms();
        zerosStrictlyBelow();
        placesBounds();
        placesUpToSize();
        exactBounds();
        fractionBounds();
        stepsThere();
        stepsDividedByNothing();
        placeMoreAtNought();
        placeMoreTooFar();
        movedTooFar();
        stretchedTooFar();
        weighedTooFar();
        statesSixAtMost();
        statesWithoutChange();
        statesOfTheRowAlone();
        noStates();
        orderOfRefusals();
        refusalsAreCounted();
        changesAfterRefusals();
        questionsAfterQuestions();
        fractionsInLowestTerms();
        CHECK.end();
    }

    private static Supplier<SquaredRows> row(int... moments) {
        return Check.row(moments);
    }

    private static int[] first(int number, int... moments) {
        return Arrays.copyOf(moments, number);
    }

    // ---- the row

    private static void rowSize() {
        CHECK.sentence("K (1 .. 7; 1 at first)");
        CHECK.due("K at first", new SquaredRows().told(4), 1);
        CHECK.refused("less of a new one", SquaredRows::new, x -> x.less(), NO);
        CHECK.changes("more of a new one", SquaredRows::new, x -> x.more(5), 2, 1, 5);
        CHECK.changes("less of two", row(3, 4), x -> x.less(), 1, 3);
        CHECK.refused("less of one", row(3), x -> x.less(), NO);
        CHECK.changes("weighs of two", row(3, 4), x -> x.weighs(0), 4, 4);
        CHECK.refused("weighs of one", row(3), x -> x.weighs(0), NO);
        CHECK.changes("more of six", row(1, 2, 3, 4, 5, 6), x -> x.more(7), 7,
                1, 2, 3, 4, 5, 6, 7);
        CHECK.refused("more of seven", row(1, 2, 3, 4, 5, 6, 7), x -> x.more(8), FULL);
        for (int size = 1; size <= 7; size++) {
            CHECK.answers("K", row(first(size, MANY)), x -> x.told(4), size);
        }
    }

    private static void momentBounds() {
        CHECK.sentence("MOMENTS, whole numbers -500 .. 500 (m0 1 at first)");
        CHECK.due("m0 at first", new SquaredRows().of(0), 1);
        CHECK.changes("moment 500", row(3, 4), x -> x.moment(0, 500), 3, 500, 4);
        CHECK.changes("moment -500", row(3, 4), x -> x.moment(1, -500), 4, 3, -500);
        CHECK.changes("more 500", row(3, 4), x -> x.more(500), 3, 3, 4, 500);
        CHECK.changes("more -500", row(3, 4), x -> x.more(-500), 3, 3, 4, -500);
        CHECK.outside("moment 0", row(3, 4), (x, v) -> x.moment(0, v), -500, 500);
        CHECK.outside("moment 1", row(3, 4), (x, v) -> x.moment(1, v), -500, 500);
        CHECK.outside("more", row(3, 4), (x, v) -> x.more(v), -500, 500);
    }

    // ---- tables

    private static void tableBounds() {
        CHECK.sentence("TABLE of size n (0 .. 4) from s (0 .. 6) on");
        Supplier<SquaredRows> seven = row(2, 3, 5, 7, 11, 13, 17);
        CHECK.bounds("size 0, s", seven, (x, s) -> x.determinant(s, 0), new int[] {0, 6},
                new long[] {1, 1});
        CHECK.bounds("size 1, s", seven, (x, s) -> x.determinant(s, 1), new int[] {0, 6},
                new long[] {2, 17});
        CHECK.bounds("s 0, n", seven, (x, n) -> x.determinant(0, n), new int[] {0, 4},
                new long[] {1, determinant(0, 4, 2, 3, 5, 7, 11, 13, 17)});
    }

    /** By the first line; the tests' own way to it. */
    private static long determinant(int s, int n, int... moments) {
        long[][] table = new long[n][n];
        for (int i = 0; i < n; i++) {
            for (int j = 0; j < n; j++) {
                table[i][j] = moments[s + i + j];
            }
        }
        return expand(table);
    }

    private static long expand(long[][] table) {
        if (table.length == 0) {
            return 1;
        }
        long sum = 0;
        for (int c = 0; c < table.length; c++) {
            long[][] rest = new long[table.length - 1][table.length - 1];
            for (int i = 0; i < rest.length; i++) {
                for (int j = 0; j < rest.length; j++) {
                    rest[i][j] = table[i + 1][j < c ? j : j + 1];
                }
            }
            sum += (c % 2 == 0 ? 1 : -1) * table[0][c] * expand(rest);
        }
        return sum;
    }

    private static void tableThere() {
        int[] moments = {7, -3, 11, 5, -2, 13, 29};
        for (int size = 1; size <= 7; size++) {
            for (int s = 0; s <= 6; s++) {
                CHECK.sentence("THERE (size 0: always); DET of size 0: 1");
                int from = s;
                CHECK.answers("K " + size + ", determinant(" + s + ", 0)",
                        row(first(size, moments)), x -> x.determinant(from, 0), 1);
                CHECK.sentence("THERE, if K is above s and 2 (n less 1) together");
                for (int n = 1; n <= 4; n++) {
                    tableThere(size, s, n, moments);
                }
            }
        }
    }

    private static void tableThere(int size, int s, int n, int... moments) {
        String call = "K " + size + ", determinant(" + s + ", " + n + ")";
        int needed = s + 2 * n - 1;
        if (size >= needed) {
            CHECK.answers(call, row(first(size, moments)), x -> x.determinant(s, n),
                    determinant(s, n, moments));
        } else {
            CHECK.refused(call, row(first(size, moments)), x -> x.determinant(s, n), NO);
        }
    }

    private static void tableOfGreatNumbers() {
        CHECK.sentence("DET: its determinant, at the greatest numbers");
        Supplier<SquaredRows> great = row(-500, -500, -500, 500, -500, -500, -500);
        CHECK.answers("size 4", great, x -> x.determinant(0, 4), -1000000000000L);
        CHECK.answers("size 3", great, x -> x.determinant(0, 3), 500000000L);
        Supplier<SquaredRows> last = row(-500, -500, -500, -500, -500, -500, 500);
        CHECK.answers("size 2", last, x -> x.determinant(4, 2), -500000L);
        Supplier<SquaredRows> odd = row(-486, 499, -499, -498, -495, -500, 493);
        CHECK.ratio("P of 3 at -99", odd, (x, what) -> x.value(3, -99, 1, what),
                -486107872175741L, 495997504L);
        Supplier<SquaredRows> far = row(-499, -500, -497, 499, -489, -496, -499);
        CHECK.ratio("step 6", far, (x, what) -> x.step(6, what),
                482739332060892387L, 240123041640427495L);
    }

    // ---- polynomials, norms, the rule

    private static void polynomialSize() {
        CHECK.sentence("P IS, if K is 2 n or more (n 0: always)");
        for (int size = 1; size <= 7; size++) {
            Supplier<SquaredRows> some = row(first(size, MANY));
            CHECK.ratio("K " + size + ", P of 0", some, (x, what) -> x.polynomial(0, 0, what),
                    1, 1);
            for (int n = 1; n <= 3; n++) {
                int degree = n;
                String call = "K " + size + ", P of " + n;
                if (size >= 2 * n) {
                    CHECK.answers(call, some, x -> x.polynomial(degree, degree, 0), 1);
                    CHECK.answers(call, some, x -> x.value(degree, 0, 1, 1), 1);
                } else {
                    CHECK.refused(call, some, x -> x.polynomial(degree, degree, 0), NO);
                    CHECK.refused(call, some, x -> x.value(degree, 0, 1, 0), NO);
                    CHECK.refused(call, some, x -> x.fraction(degree, 20, 1, 0), NO);
                    CHECK.refused(call, some, x -> x.under(degree, 0, 1), NO);
                    CHECK.refused(call, some, x -> x.zero(degree, 0, 1), NO);
                }
            }
        }
        CHECK.ratio("P of 0, m0 0", row(0), (x, what) -> x.polynomial(0, 0, what), 1, 1);
    }

    private static void polynomialDeterminant() {
        CHECK.sentence("P IS, if DET of 0, n is not 0");
        isOrNot("m0", 1, new int[] {-1, 7}, new int[] {0, 7}, new int[] {1, 7});
        // 1 2 2 m2: m2 less 4.
        isOrNot("m2", 2, new int[] {1, 2, 3, 0}, new int[] {1, 2, 4, 0}, new int[] {1, 2, 5, 0});
        // 1 0 1 0 m4 0: m4 less 1.
        isOrNot("m4", 3, new int[] {1, 0, 1, 0, 0, 0}, new int[] {1, 0, 1, 0, 1, 0},
                new int[] {1, 0, 1, 0, 2, 0});
        CHECK.sentence("P IS, whatever the DETS ahead of it are");
        CHECK.answers("P of 2 without P of 1", row(0, 1, 0, 0), x -> x.polynomial(2, 2, 0), 1);
        CHECK.answers("P of 3 without P of 2", row(1, 1, 1, 2, 0, 0),
                x -> x.polynomial(3, 3, 0), 1);
        CHECK.answers("P of 3 without others", row(0, 0, 1, 0, 0, 0),
                x -> x.polynomial(3, 3, 0), 1);
    }

    /** Rows whose determinant is -1, 0 and 1. */
    private static void isOrNot(String what, int n, int[] below, int[] nought, int[] above) {
        CHECK.answers(what + " below", row(below), x -> x.determinant(0, n), -1);
        CHECK.answers(what + " below", row(below), x -> x.polynomial(n, n, 0), 1);
        CHECK.answers(what + " above", row(above), x -> x.determinant(0, n), 1);
        CHECK.answers(what + " above", row(above), x -> x.polynomial(n, n, 0), 1);
        CHECK.answers(what + " nought", row(nought), x -> x.determinant(0, n), 0);
        for (int j = 0; j <= n; j++) {
            int at = j;
            CHECK.refused(what + " nought", row(nought), x -> x.polynomial(n, at, 0), NO);
        }
        CHECK.refused(what + " nought, value", row(nought), x -> x.value(n, 5, 1, 0), NO);
        CHECK.refused(what + " nought, fraction", row(nought), x -> x.fraction(n, 5, 1, 0), NO);
        CHECK.refused(what + " nought, under", row(nought), x -> x.under(n, 5, 1), NO);
        CHECK.refused(what + " nought, zero", row(nought), x -> x.zero(n, 0, 1), NO);
    }

    private static void normSize() {
        CHECK.sentence("NORM of n (P of n being, K above 2 n)");
        int[] norms = {4, 4, 2, 7};
        for (int size = 1; size <= 7; size++) {
            for (int n = 0; n <= 3; n++) {
                int degree = n;
                String call = "K " + size + ", norm of " + n;
                if (size > 2 * n) {
                    CHECK.answers(call, row(first(size, MANY)), x -> x.norm(degree, 0), norms[n]);
                } else {
                    CHECK.refused(call, row(first(size, MANY)), x -> x.norm(degree, 0), NO);
                }
            }
        }
        CHECK.refused("P of 1 is not", row(0, 1, 1), x -> x.norm(1, 0), NO);
        CHECK.refused("P of 2 is not", row(1, 2, 4, 0, 0), x -> x.norm(2, 0), NO);
        CHECK.refused("P of 3 is not", row(1, 0, 1, 0, 1, 0, 0), x -> x.norm(3, 0), NO);
        CHECK.ratio("P of 2 is, P of 1 is not", row(0, 1, 0, 0, 5),
                (x, what) -> x.norm(2, what), 5, 1);
    }

    private static void normSigns() {
        CHECK.sentence("NORM is DET of 0, n and 1 by DET of 0, n");
        CHECK.ratio("0", row(0), (x, what) -> x.norm(0, what), 0, 1);
        CHECK.ratio("1, above 0", row(2, 0, 3), (x, what) -> x.norm(1, what), 3, 1);
        CHECK.ratio("1, below 0 by below 0", row(-2, 1, 3), (x, what) -> x.norm(1, what), 7, 2);
        CHECK.ratio("1, below 0", row(2, 1, -3), (x, what) -> x.norm(1, what), -7, 2);
        CHECK.ratio("1, 0", row(1, 2, 4), (x, what) -> x.norm(1, what), 0, 1);
        CHECK.ratio("3, 0", row(3, 0, 2, 0, 2, 0, 2), (x, what) -> x.norm(3, what), 0, 1);
    }

    private static void ruleSize() {
        CHECK.sentence("A of n (0 .. 2) and B of n (1 .. 2) ARE, if P of n and 1 is");
        int[][] b = {{}, {1, 1}, {1, 2}};
        for (int size = 1; size <= 7; size++) {
            Supplier<SquaredRows> some = row(first(size, MANY));
            for (int n = 0; n <= 2; n++) {
                int at = n;
                String call = "K " + size + ", rule of " + n;
                if (size < 2 * n + 2) {
                    CHECK.refused(call + ", A", some, x -> x.rule(0, at, 0), NO);
                    CHECK.refused(call + ", B", some, x -> x.rule(1, at, 0), n == 0 ? BAD : NO);
                    continue;
                }
                CHECK.ratio(call + ", A", some, (x, what) -> x.rule(0, at, what), 0, 1);
                if (n > 0) {
                    CHECK.ratio(call + ", B", some, (x, what) -> x.rule(1, at, what),
                            b[n][0], b[n][1]);
                }
            }
        }
    }

    private static void ruleParts() {
        CHECK.sentence("ARE, if P of n less 1 (n 1 or more), of n, of n and 1 are");
        int[][] lacking = {{0, 5, 1, 1}, {0, 1, 1, 1}, {1, 1, 1, 1}, {0, 1, 1, 1, 0, 0},
            {1, 1, 1, 2, 0, 0}, {1, 0, 1, 0, 1, 0}};
        int[] numbers = {0, 1, 1, 2, 2, 2};
        String[] why = {"P of 1", "P of 1", "P of 2", "P of 1", "P of 2", "P of 3"};
        for (int i = 0; i < lacking.length; i++) {
            int n = numbers[i];
            String call = "rule of " + n + " without " + why[i];
            CHECK.refused(call + ", A", row(lacking[i]), x -> x.rule(0, n, 0), NO);
            if (n > 0) {
                CHECK.refused(call + ", B", row(lacking[i]), x -> x.rule(1, n, 0), NO);
            }
        }
        CHECK.ratio("P of 0 and of 1 are", row(-3, 5), (x, what) -> x.rule(0, 0, what), -5, 3);
        // P of 1 is x, P of 2 is x squared less x and 1: A is 1, B is -1.
        CHECK.ratio("norms below 0", row(1, 0, -1, -1), (x, what) -> x.rule(0, 1, what), 1, 1);
        CHECK.ratio("norms below 0", row(1, 0, -1, -1), (x, what) -> x.rule(1, 1, what), -1, 1);
    }

    // ---- the verdict

    private static void verdict(String what, int[] moments, int... wants) {
        for (int part = 0; part < wants.length; part++) {
            int asked = part;
            CHECK.answers(what + ", verdict(" + part + ")", row(moments), x -> x.verdict(asked),
                    wants[part]);
        }
    }

    private static void verdictNorms() {
        CHECK.sentence("NORMS are asked, as long as K is above 2 n (n 3 at most)");
        int[] norms = {1, 1, 2, 2, 3, 3, 4};
        for (int size = 1; size <= 7; size++) {
            verdict("K " + size, first(size, MANY), 2, norms[size - 1], NONE, NONE);
        }
        CHECK.sentence("what would refuse it stands behind the row's last NORM");
        verdict("K 2", new int[] {1, -500}, 2, 1, NONE, NONE);
        verdict("K 4", new int[] {1, 0, 1, 500}, 2, 2, NONE, NONE);
        verdict("K 6", new int[] {1, 0, 1, 0, 2, -500}, 2, 3, NONE, NONE);
    }

    private static void verdictSquares() {
        CHECK.sentence("the first one below 0: NONE, refused by a SQUARE");
        int[][] last = {{0}, {1, 0, 0}, {1, 0, 1, 0, 1}, {3, 0, 2, 0, 2, 0, 2}};
        for (int n = 0; n <= 3; n++) {
            int[] moments = last[n].clone();
            int at = moments.length - 1;
            moments[at]--;
            verdict("norm of " + n + " below 0", moments, 0, n, 0, NONE);
            moments[at]++;
            verdict("norm of " + n + " 0", moments, 1, n, NONE, NONE);
            moments[at]++;
            verdict("norm of " + n + " above 0", moments, 2, n + 1, NONE, NONE);
        }
        CHECK.sentence("the first one decides, whatever comes behind");
        verdict("below 0, then others", new int[] {-1, 0, -1, 0, -2, 0, -9}, 0, 0, 0, NONE);
        verdict("below 0, then 0", new int[] {1, 0, -1, 1, -1, 0, 0}, 0, 1, 0, NONE);
        verdict("0, then below 0", new int[] {0, 0, -1}, 0, 0, 1, 2);
    }

    private static void verdictRests() {
        CHECK.sentence("0 NONE, if for some j (n and 1 .. K less 1 less n) .. else 1 ONE");
        verdict("n 0, K 1: no j", new int[] {0}, 1, 0, NONE, NONE);
        for (int j = 1; j <= 6; j++) {
            for (int v = -1; v <= 1; v += 2) {
                int[] moments = new int[j + 1];
                moments[j] = v;
                verdict("n 0, the last moment is " + v, moments, 0, 0, 1, j);
                verdict("n 0, the same and more", first(7, moments), 0, 0, 1, j);
            }
            verdict("n 0, all 0", new int[j + 1], 1, 0, NONE, NONE);
        }
        int[] twos = {1, 2, 4, 8, 16, 32, 64};
        rests("n 1", 1, twos);
        int[] pair = {2, 0, 2, 0, 2, 0, 2};
        rests("n 2", 2, pair);
        verdict("n 3, K 7: no j", new int[] {3, 0, 2, 0, 2, 0, 2}, 1, 3, NONE, NONE);
    }

    /** The places told by moments 0 to 2 n; each later moment alone is one too great or small. */
    private static void rests(String what, int n, int... moments) {
        verdict(what + ": no j", first(2 * n + 1, moments), 1, n, NONE, NONE);
        for (int last = 2 * n + 1; last <= 6; last++) {
            int[] some = first(last + 1, moments);
            verdict(what + ", K " + (last + 1), some, 1, n, NONE, NONE);
            some[last]--;
            verdict(what + ", m" + last + " less", some, 0, n, 1, last - n);
            some[last] += 2;
            verdict(what + ", m" + last + " more", some, 0, n, 1, last - n);
        }
    }

    private static void verdictLeastRest() {
        CHECK.sentence("refused by a REST (the least such j)");
        verdict("n 0, all", new int[] {0, 1, 1, 1, 1, 1, 1}, 0, 0, 1, 1);
        verdict("n 0, 5 and 6", new int[] {0, 0, 0, 0, 0, 3, 3}, 0, 0, 1, 5);
        verdict("n 1, 2 and more", new int[] {1, 2, 4, 9, 9, 9, 9}, 0, 1, 1, 2);
        verdict("n 1, 3 and more", new int[] {1, 2, 4, 8, 9, 9, 9}, 0, 1, 1, 3);
        verdict("n 2, 3 and 4", new int[] {2, 0, 2, 0, 2, 1, 3}, 0, 2, 1, 3);
    }

    // ---- zeros

    private static void zerosNorms() {
        CHECK.sentence("ZEROS of P of n, where NORMS of 0 to n less 1 are above 0");
        zerosRefused("NORM of 0 below 0", 1, -1, 0);
        zerosRefused("NORM of 0 below 0", 2, -1, 0, 1, 0);
        zerosRefused("NORM of 0 below 0", 3, -1, 0, 1, 0, -2, 0);
        zerosRefused("NORM of 0 is 0", 2, 0, 1, 0, 0);
        zerosRefused("NORM of 0 is 0", 3, 0, 1, 1, 1, 0, 0);
        zerosRefused("NORM of 1 below 0", 2, 1, 0, -1, 0);
        zerosRefused("NORM of 1 below 0", 3, 1, 0, -1, 0, 2, 0);
        zerosRefused("NORM of 1 is 0", 3, 1, 1, 1, 2, 0, 0);
        zerosRefused("NORM of 2 below 0", 3, 1, 0, 1, 0, 0, 0);
        CHECK.sentence("NORM of n itself is free");
        int[][] free = {{1, 0, -1}, {1, 0, 0}, {1, 0}, {1, 0, 1, 0, 0}, {1, 0, 1, 0, 1},
            {1, 0, 1, 0}, {3, 0, 2, 0, 2, 0, 1}, {3, 0, 2, 0, 2, 0, 2}, {3, 0, 2, 0, 2, 0}};
        for (int[] moments : free) {
            int n = moments.length / 2;
            CHECK.answers("P of " + n + " of " + Arrays.toString(moments), row(moments),
                    x -> x.under(n, 99, 1), n);
            CHECK.answers("P of " + n + " of " + Arrays.toString(moments), row(moments),
                    x -> x.zero(n, n - 1, 1), n == 1 ? 0 : 1);
        }
    }

    private static void zerosRefused(String what, int n, int... moments) {
        CHECK.answers(what + ", P of " + n + " is", row(moments), x -> x.polynomial(n, n, 0), 1);
        CHECK.refused(what + ", under " + n, row(moments), x -> x.under(n, 0, 1), NO);
        for (int i = 0; i < n; i++) {
            int which = i;
            CHECK.refused(what + ", zero " + n, row(moments), x -> x.zero(n, which, 1), NO);
        }
    }

    private static void zerosStrictlyBelow() {
        CHECK.sentence("UNDER of a fraction: how many are below it");
        // Zeros -1, 0, 1 of P of 3; plus and minus 1 of P of 2; 0 of P of 1.
        Supplier<SquaredRows> three = row(3, 0, 2, 0, 2, 0);
        int[] at = {-10, -9, -8, -1, 0, 1, 8, 9, 10};
        int[] wants = {0, 0, 1, 1, 1, 2, 2, 2, 3};
        for (int i = 0; i < at.length; i++) {
            int a = at[i];
            CHECK.answers("P of 3 at " + a + " by 9", three, x -> x.under(3, a, 9), wants[i]);
        }
        Supplier<SquaredRows> two = row(2, 0, 2, 0);
        int[] ofTwo = {0, 0, 1, 1, 1, 1, 1, 1, 2};
        int[] ofOne = {0, 0, 0, 0, 0, 1, 1, 1, 1};
        for (int i = 0; i < at.length; i++) {
            int a = at[i];
            CHECK.answers("P of 2 at " + a + " by 9", two, x -> x.under(2, a, 9), ofTwo[i]);
            CHECK.answers("P of 1 at " + a + " by 9", two, x -> x.under(1, a, 9), ofOne[i]);
        }
    }

    // ---- places

    private static void placesBounds() {
        CHECK.sentence("PLACES (1 to 7 of -9 .. 9, as bits: bit i for i less 9)");
        Supplier<SquaredRows> seven = row(MANY);
        CHECK.ratio("bit 0", seven, (x, what) -> x.weight(1, -9, what), 4, 1);
        CHECK.ratio("bit 18", seven, (x, what) -> x.weight(1 << 18, 9, what), 4, 1);
        CHECK.answers("bit 0", seven, x -> x.exact(1), 0);
        CHECK.answers("bit 9", seven, x -> x.exact(1 << 9), 1);
        CHECK.answers("bit 18", seven, x -> x.exact(1 << 18), 0);
        CHECK.answers("seven at the low end", seven, x -> x.exact(127), 6);
        CHECK.answers("seven at the high end", seven, x -> x.exact(127 << 12), 6);
        int[] none = {0, -1, 255, 255 << 11, (1 << 19) - 1, 1 << 19, 1 << 20, 1 << 30, 1 << 31,
            1 << 19 | 1, 1 << 31 | 1, Integer.MAX_VALUE};
        for (int set : none) {
            CHECK.refused("exact of " + set, seven, x -> x.exact(set), BAD);
            for (int place = -9; place <= 9; place += 9) {
                int of = place;
                CHECK.refused("weight of " + set, seven, x -> x.weight(set, of, 0), BAD);
            }
        }
        CHECK.refused("bit 19 as place 10", seven, x -> x.weight(1 << 19, 10, 0), BAD);
        CHECK.refused("bit 31 as place 22", seven, x -> x.weight(1 << 31, 22, 0), BAD);
    }

    private static void placesUpToSize() {
        CHECK.sentence("PLACES, no more than K");
        for (int size = 1; size <= 7; size++) {
            for (int number = 1; number <= 7; number++) {
                int set = (1 << number) - 1;
                Supplier<SquaredRows> some = row(first(size, 1, -9, 81, 0, 0, 0, 0));
                String call = "K " + size + ", " + number + " places";
                if (number > size) {
                    CHECK.refused(call, some, x -> x.exact(set), NO);
                    CHECK.refused(call, some, x -> x.weight(set, -9, 0), NO);
                } else {
                    CHECK.answers(call, some, x -> x.exact(set),
                            Math.max(number - 1, Math.min(size - 1, 2)));
                }
                if (number <= size && size <= 3) {
                    CHECK.ratio(call, some, (x, what) -> x.weight(set, -9, what), 1, 1);
                }
            }
        }
    }

    private static void exactBounds() {
        CHECK.sentence("EXACT: the greatest e (0 .. K less 1) for which that is so for j 0 .. e");
        CHECK.answers("K 1", row(5), x -> x.exact(Check.bits(3)), 0);
        CHECK.answers("0 of 2", row(5, 16), x -> x.exact(Check.bits(3)), 0);
        CHECK.answers("1 of 2", row(5, 15), x -> x.exact(Check.bits(3)), 1);
        int[] ones = {2, 0, 2, 0, 2, 0, 2};
        for (int last = 2; last <= 6; last++) {
            int[] off = ones.clone();
            off[last]++;
            CHECK.answers("off at " + last, row(off), x -> x.exact(Check.bits(-1, 1)), last - 1);
            CHECK.answers("ended ahead of " + last, row(first(last, off)),
                    x -> x.exact(Check.bits(-1, 1)), last - 1);
        }
        CHECK.answers("all", row(ones), x -> x.exact(Check.bits(-1, 1)), 6);
        CHECK.answers("as many as K", row(first(2, ones)), x -> x.exact(Check.bits(8, 9)), 1);
        CHECK.answers("right again later", row(2, 0, 2, 1, 2, 0, 2),
                x -> x.exact(Check.bits(-1, 1)), 2);
    }

    // ---- fractions, steps

    private static void fractionBounds() {
        CHECK.sentence("FRACTION .. by P of n at x (not 0)");
        // P of 1 is x less 20, of 2 x squared less 25, of 3 x (x less 1) (x and 1).
        Supplier<SquaredRows> one = row(1, 20);
        CHECK.refused("P of 1 is 0", one, x -> x.fraction(1, 20, 1, 0), NO);
        CHECK.ratio("P of 1 is not", one, (x, what) -> x.fraction(1, 19, 1, what), -1, 1);
        Supplier<SquaredRows> two = row(1, 0, 25, 0);
        CHECK.refused("P of 2 is 0", two, x -> x.fraction(2, -5, 1, 0), NO);
        CHECK.refused("P of 2 is 0", two, x -> x.fraction(2, 20, 4, 1), NO);
        CHECK.ratio("P of 2 is not", two, (x, what) -> x.fraction(2, 19, 4, what), -76, 39);
        Supplier<SquaredRows> three = row(3, 0, 2, 0, 2, 0);
        CHECK.refused("P of 3 is 0", three, x -> x.fraction(3, 0, 4, 0), NO);
        CHECK.refused("P of 3 is 0", three, x -> x.fraction(3, -4, 4, 0), NO);
        CHECK.ratio("P of 3 is not", three, (x, what) -> x.fraction(3, 1, 4, what), 52, 15);
    }

    private static void stepsThere() {
        CHECK.sentence("c of k IS, if all four are THERE");
        int[] moments = {1, 1, 2, 6, 24, 120, 500};
        int[] above = {1, 1, 2, 2, 3, -46};
        for (int size = 1; size <= 7; size++) {
            Supplier<SquaredRows> some = row(first(size, moments));
            for (int k = 1; k <= 6; k++) {
                int at = k;
                String call = "K " + size + ", step " + k;
                if (size > k) {
                    CHECK.ratio(call, some, (x, what) -> x.step(at, what), above[k - 1],
                            k == 6 ? 3 : 1);
                } else {
                    CHECK.refused(call, some, x -> x.step(at, 0), NO);
                }
            }
        }
    }

    private static void stepsDividedByNothing() {
        CHECK.sentence("c of k IS, if it is divided by none that is 0");
        stepByNothing(1, 0, 1, new int[] {0, 1});
        stepByNothing(2, 0, 1, new int[] {0, 1, 1});
        stepByNothing(2, 1, 1, new int[] {1, 0, 1});
        stepByNothing(3, 0, 2, new int[] {1, 1, 1, 2});
        stepByNothing(3, 1, 1, new int[] {1, 0, 1, 1});
        stepByNothing(4, 0, 2, new int[] {1, 1, 1, 2, 5});
        stepByNothing(4, 1, 2, new int[] {3, 1, 1, 1, 5});
        stepByNothing(5, 0, 3, new int[] {1, 0, 1, 0, 1, 0});
        stepByNothing(5, 1, 2, new int[] {3, 1, 1, 1, 5, 7});
        stepByNothing(6, 0, 3, new int[] {1, 0, 1, 0, 1, 0, 5});
        stepByNothing(6, 1, 3, new int[] {2, 0, 3, 0, 7, 0, 50});
        CHECK.sentence("a step that is 0 is told, as 0 by 1");
        CHECK.ratio("step 1", row(-2, 0), (x, what) -> x.step(1, what), 0, 1);
        CHECK.ratio("step 2", row(-1, 1, -1), (x, what) -> x.step(2, what), 0, 1);
        CHECK.ratio("step 3", row(1, 1, 2, 4), (x, what) -> x.step(3, what), 0, 1);
    }

    private static void stepByNothing(int k, int s, int n, int... moments) {
        CHECK.answers("DET of " + s + ", " + n, row(moments), x -> x.determinant(s, n), 0);
        CHECK.refused("step " + k + " by it", row(moments), x -> x.step(k, 0), NO);
        CHECK.refused("step " + k + " by it", row(moments), x -> x.step(k, 1), NO);
    }

    // ---- rows changed

    private static void placeMoreAtNought() {
        CHECK.sentence("each mj is w times x to the j more (0 to the 0 is 1)");
        CHECK.changes("place 0", row(1, 2, 3), x -> x.adds(0, 7), 8, 8, 2, 3);
        CHECK.changes("place 0, one moment", row(1), x -> x.adds(0, -7), -6, -6);
        CHECK.changes("place 1", row(1, 2, 3), x -> x.adds(1, 7), 8, 8, 9, 10);
        CHECK.changes("place -1", row(1, 2, 3), x -> x.adds(-1, 7), 8, 8, -5, 10);
        CHECK.sentence("STRETCHED by c: mj becomes c to the j times mj (0 to the 0 is 1)");
        CHECK.changes("by 0", row(4, 5, 6), x -> x.stretches(0), 0, 4, 0, 0);
        CHECK.changes("by 0, one moment", row(4), x -> x.stretches(0), 4, 4);
    }

    private static void placeMoreTooFar() {
        CHECK.sentence("PLACE MORE: what would make a MOMENT below -500 or above 500 is refused");
        CHECK.changes("m0 500", row(401), x -> x.adds(5, 99), 500, 500);
        CHECK.refused("m0 501", row(402), x -> x.adds(5, 99), NO);
        CHECK.changes("m0 -500", row(-401), x -> x.adds(5, -99), -500, -500);
        CHECK.refused("m0 -501", row(-402), x -> x.adds(5, -99), NO);
        for (int j = 1; j <= 6; j++) {
            int[] rowThen = {2, 2, 2, 2, 2, 2, 2};
            rowThen[j] = 500;
            int[] moments = {1, 1, 1, 1, 1, 1, 1};
            moments[j] = 499;
            CHECK.changes("m" + j + " 500", row(moments), x -> x.adds(1, 1), 2, rowThen);
            moments[j] = 500;
            CHECK.refused("m" + j + " 501", row(moments), x -> x.adds(1, 1), NO);
            int[] lowThen = {0, 0, 0, 0, 0, 0, 0};
            lowThen[j] = -500;
            moments[j] = -499;
            CHECK.changes("m" + j + " -500", row(moments), x -> x.adds(1, -1), 0, lowThen);
            moments[j] = -500;
            CHECK.refused("m" + j + " -501", row(moments), x -> x.adds(1, -1), NO);
        }
        int[] nought = new int[7];
        CHECK.refused("9 to the 6, 99 times", row(nought), x -> x.adds(9, 99), NO);
        CHECK.refused("-9 to the 5", row(first(6, nought)), x -> x.adds(-9, 1), NO);
        CHECK.changes("9, 0 times", row(nought), x -> x.adds(9, 0), 0, nought);
    }

    private static void movedTooFar() {
        CHECK.sentence("MOVED: what would make a MOMENT below -500 or above 500 is refused");
        CHECK.changes("m1 500", row(10, 410), x -> x.moves(9), 500, 10, 500);
        CHECK.refused("m1 501", row(10, 411), x -> x.moves(9), NO);
        CHECK.changes("m1 -500", row(10, -410), x -> x.moves(-9), -500, 10, -500);
        CHECK.refused("m1 -501", row(10, -411), x -> x.moves(-9), NO);
        // m2 becomes m2 and 2 m1 and m0.
        CHECK.changes("m2 500", row(100, 50, 300), x -> x.moves(1), 500, 100, 150, 500);
        CHECK.refused("m2 501", row(100, 50, 301), x -> x.moves(1), NO);
        CHECK.changes("m2 -500", row(-100, 50, -300), x -> x.moves(-1), -500, -100, 150, -500);
        CHECK.refused("m2 -501", row(-100, 50, -301), x -> x.moves(-1), NO);
        CHECK.refused("one in the middle", row(100, 450, -500), x -> x.moves(1), NO);
        CHECK.refused("9 to the 6", row(500, 500, 500, 500, 500, 500, 500), x -> x.moves(9), NO);
        CHECK.changes("2 to the 6, 7 times", row(7, 0, 0, 0, 0, 0, 0), x -> x.moves(2), 448,
                7, 14, 28, 56, 112, 224, 448);
        CHECK.refused("2 to the 6, 8 times", row(8, 0, 0, 0, 0, 0, 0), x -> x.moves(2), NO);
    }

    private static void stretchedTooFar() {
        CHECK.sentence("STRETCHED: what would make a MOMENT below -500 or above 500 is refused");
        CHECK.changes("m1 500", row(500, 100), x -> x.stretches(5), 500, 500, 500);
        CHECK.refused("m1 501", row(500, 167), x -> x.stretches(3), NO);
        CHECK.changes("m1 -500", row(500, 100), x -> x.stretches(-5), -500, 500, -500);
        CHECK.refused("m1 -501", row(500, 167), x -> x.stretches(-3), NO);
        CHECK.refused("one in the middle", row(0, 251, 0), x -> x.stretches(2), NO);
        CHECK.changes("2 to the 6, 7 times", row(0, 0, 0, 0, 0, 0, 7), x -> x.stretches(-2), 448,
                0, 0, 0, 0, 0, 0, 448);
        CHECK.refused("2 to the 6, 8 times", row(0, 0, 0, 0, 0, 0, 8), x -> x.stretches(-2), NO);
        CHECK.refused("9 to the 6", row(0, 0, 0, 0, 0, 0, 500), x -> x.stretches(9), NO);
    }

    private static void weighedTooFar() {
        CHECK.sentence("WEIGHED: what would make a MOMENT below -500 or above 500 is refused");
        CHECK.changes("m0 500", row(50, 50), x -> x.weighs(-9), 500, 500);
        CHECK.refused("m0 501", row(50, 51), x -> x.weighs(-9), NO);
        CHECK.changes("m0 -500", row(50, -50), x -> x.weighs(9), -500, -500);
        CHECK.refused("m0 -501", row(50, -51), x -> x.weighs(9), NO);
        CHECK.changes("the last 500", row(0, 0, 0, 0, 0, 50, 50), x -> x.weighs(-9), 0,
                0, 0, 0, 0, 50, 500);
        CHECK.refused("the last 501", row(0, 0, 0, 0, 0, 50, 51), x -> x.weighs(-9), NO);
        CHECK.refused("one in the middle", row(0, 400, 300, -300), x -> x.weighs(-1), NO);
        CHECK.changes("m0 goes", row(500, 500, 0), x -> x.weighs(1), 0, 0, -500);
    }

    // ---- states, refusals

    private static void statesSixAtMost() {
        CHECK.sentence("STATES, 6 at most, older ones lost");
        SquaredRows x = new SquaredRows();
        for (int call = 1; call <= 8; call++) {
            x.moment(0, 10 * call);
            CHECK.due("states after " + call, x.told(5), Math.min(call, 6));
        }
        for (int left = 5; left >= 0; left--) {
            CHECK.due("back", x.back(), left);
            CHECK.due("m0 then", x.of(0), 10 * (left + 2));
        }
        CHECK.due("back", x.back(), NO);
        CHECK.due("m0 then", x.of(0), 20);
        SquaredRows six = new SquaredRows();
        for (int call = 1; call <= 6; call++) {
            six.moment(0, 10 * call);
        }
        for (int left = 5; left >= 0; left--) {
            six.back();
        }
        CHECK.due("the first of six", six.of(0), 1);
        CHECK.refused("the seventh is asked for", SquaredRows::new, y -> y.back(), NO);
        SquaredRows full = new SquaredRows();
        for (int call = 1; call <= 6; call++) {
            full.moment(0, 10 * call);
        }
        Check.write(full, "k 3;k 4;").reads();
        CHECK.due("a text at six", full.told(5), 6);
        for (int left = 5; left >= 0; left--) {
            CHECK.due("back", full.back(), left);
            CHECK.due("m0 then", full.of(0), 10 * (left + 1));
            CHECK.due("K then", full.told(4), 1);
        }
    }

    private static void statesWithoutChange() {
        CHECK.sentence("leaves one, also if nothing changes by it");
        Supplier<SquaredRows> some = row(3, 4, 5);
        CHECK.changes("moment", some, x -> x.moment(1, 4), 4, 3, 4, 5);
        CHECK.changes("adds", some, x -> x.adds(9, 0), 3, 3, 4, 5);
        CHECK.changes("moves", some, x -> x.moves(0), 5, 3, 4, 5);
        CHECK.changes("stretches", some, x -> x.stretches(1), 5, 3, 4, 5);
        CHECK.changes("reads", some, x -> x.reads(), 1, 3, 4, 5);
        CHECK.changes("reads there and back", Check.text("k1;l;", 3, 4, 5), x -> x.reads(), 2,
                3, 4, 5);
    }

    private static void statesOfTheRowAlone() {
        CHECK.sentence("to go back to (THE ROW)");
        SquaredRows x = row(3, 4, 5).get();
        int bytes = x.told(3);
        x.of(9);
        x.less();
        x.type(' ');
        x.determinant(6, 1);
        CHECK.due("back", x.back(), 2);
        CHECK.due("K", x.told(4), 3);
        CHECK.due("bad", x.told(0), 1);
        CHECK.due("no", x.told(1), 1);
        CHECK.due("the text", x.told(3), bytes + 1);
    }

    private static void noStates() {
        CHECK.sentence("only calls told S leave a STATE");
        SquaredRows x = row(MANY).get();
        int states = x.told(5);
        x.of(0);
        x.determinant(0, 4);
        x.polynomial(3, 0, 0);
        x.norm(3, 0);
        x.rule(1, 2, 0);
        x.verdict(0);
        x.value(3, 1, 1, 0);
        x.under(3, 0, 1);
        x.zero(3, 0, 9);
        x.weight(1, -9, 0);
        x.exact(1);
        x.fraction(3, 5, 1, 0);
        x.step(1, 0);
        x.type(' ');
        x.clear();
        x.digest();
        CHECK.due("states", x.told(5), states);
        x.back();
        CHECK.due("back takes one", x.told(5), states - 1);
    }

    private static void orderOfRefusals() {
        CHECK.sentence("Refused, the first of: BAD; NO; FULL");
        CHECK.refused("more", row(1, 2, 3, 4, 5, 6, 7), x -> x.more(501), BAD);
        CHECK.refused("weighs", row(1), x -> x.weighs(10), BAD);
        CHECK.refused("adds", row(500), x -> x.adds(-10, 1), BAD);
        CHECK.refused("adds", row(500), x -> x.adds(0, 100), BAD);
        CHECK.refused("moves", row(500, 500), x -> x.moves(10), BAD);
        CHECK.refused("stretches", row(500, 500), x -> x.stretches(10), BAD);
        CHECK.refused("determinant", row(1), x -> x.determinant(7, 4), BAD);
        CHECK.refused("determinant", row(1), x -> x.determinant(6, 5), BAD);
        CHECK.refused("polynomial", row(0), x -> x.polynomial(1, 2, 0), BAD);
        CHECK.refused("polynomial", row(0), x -> x.polynomial(1, 0, 2), BAD);
        CHECK.refused("norm", row(0), x -> x.norm(1, 2), BAD);
        CHECK.refused("rule", row(0), x -> x.rule(1, 1, 2), BAD);
        CHECK.refused("value", row(0), x -> x.value(1, 0, 1, 2), BAD);
        CHECK.refused("value", row(0), x -> x.value(1, 100, 1, 0), BAD);
        CHECK.refused("under", row(0), x -> x.under(1, 0, 10), BAD);
        CHECK.refused("zero", row(0), x -> x.zero(1, 1, 1), BAD);
        CHECK.refused("zero", row(0), x -> x.zero(1, 0, 10), BAD);
        CHECK.refused("weight", row(0), x -> x.weight(7, 0, 0), BAD);
        CHECK.refused("weight", row(0), x -> x.weight(7, -9, 2), BAD);
        CHECK.refused("exact", row(0), x -> x.exact(255), BAD);
        CHECK.refused("fraction", row(0), x -> x.fraction(1, 0, 1, 2), BAD);
        CHECK.refused("fraction", row(0), x -> x.fraction(1, 21, 1, 0), BAD);
        CHECK.refused("step", row(0), x -> x.step(1, 2), BAD);
        CHECK.refused("type", Check.text(" ".repeat(100), 1), x -> x.type(128), BAD);
    }

    private static void refusalsAreCounted() {
        CHECK.sentence("changing nothing but how often");
        SquaredRows x = new SquaredRows();
        for (int time = 1; time <= 20; time++) {
            x.of(1);
            CHECK.due("bad", x.told(0), time);
            CHECK.due("no", x.told(1), time - 1);
            x.less();
            CHECK.due("bad", x.told(0), time);
            CHECK.due("no", x.told(1), time);
            CHECK.due("full", x.told(2), 0);
        }
        Check.write(x, " ".repeat(100));
        for (int time = 1; time <= 20; time++) {
            x.type(' ');
            CHECK.due("full", x.told(2), time);
        }
        CHECK.due("bad", x.told(0), 20);
        CHECK.due("no", x.told(1), 20);
    }

    private static void changesAfterRefusals() {
        CHECK.sentence("changing nothing: the next call finds THE ROW as it was");
        Check.Call[] ahead = {x -> x.moment(3, 1), x -> x.moment(0, 501), x -> x.more(501),
            x -> x.adds(9, 99), x -> x.adds(0, 100), x -> x.moves(9), x -> x.moves(10),
            x -> x.stretches(9), x -> x.stretches(10), x -> x.weighs(-9), x -> x.weighs(10),
            x -> x.reads(), x -> backAfter(x, x.moment(1, 77)), x -> backAfter(x, x.more(77)),
            x -> backAfter(x, x.less()), x -> backAfter(x, x.weighs(0))};
        Check.Call[] changes = {x -> x.moment(0, 7), x -> x.more(5), x -> x.less(),
            x -> x.adds(1, 1), x -> x.moves(-1), x -> x.stretches(-1), x -> x.weighs(0)};
        for (int i = 0; i < ahead.length; i++) {
            for (int k = 0; k < changes.length; k++) {
                CHECK.sameAfter("change " + k + " behind what is refused or taken back, " + i,
                        Check.text("k 1;v 9;", 100, 200, 300), ahead[i], changes[k]);
            }
        }
    }

    private static long backAfter(SquaredRows x, long changed) {
        return changed + x.back();
    }

    private static void questionsAfterQuestions() {
        CHECK.sentence("a question changes nothing");
        Check.Call[] questions = {x -> x.of(2), x -> x.determinant(0, 4), x -> x.determinant(2, 2),
            x -> x.determinant(6, 2), x -> x.polynomial(3, 1, 0), x -> x.polynomial(2, 0, 1),
            x -> x.norm(3, 0), x -> x.rule(1, 2, 1), x -> x.verdict(1), x -> x.value(3, 5, 2, 0),
            x -> x.under(2, 0, 1), x -> x.zero(3, 2, 9), x -> x.weight(127, -9, 0),
            x -> x.weight(1 << 9, 0, 0), x -> x.exact(5 << 8), x -> x.exact(127), x -> x.exact(255),
            x -> x.fraction(2, 3, 1, 0), x -> x.fraction(1, 0, 1, 0), x -> x.step(1, 0),
            x -> x.step(4, 1), x -> x.step(7, 0), x -> x.told(4), x -> x.told(6),
            x -> x.digest()};
        int last = questions.length - 1;
        for (int i = 0; i <= last; i++) {
            for (int k = 0; k < last; k++) {
                CHECK.sameAfter("question " + k + " behind question " + i, row(MANY),
                        questions[i], questions[k]);
            }
        }
    }

    private static void fractionsInLowestTerms() {
        CHECK.sentence("in lowest terms, below above 0 (0: 0 by 1)");
        CHECK.ratio("polynomial", row(6, 4), (x, what) -> x.polynomial(1, 0, what), -2, 3);
        CHECK.ratio("polynomial", row(-6, 4), (x, what) -> x.polynomial(1, 0, what), 2, 3);
        CHECK.ratio("polynomial", row(-6, -4), (x, what) -> x.polynomial(1, 0, what), -2, 3);
        CHECK.ratio("polynomial", row(-6, 0), (x, what) -> x.polynomial(1, 0, what), 0, 1);
        CHECK.ratio("polynomial", row(-6, 0), (x, what) -> x.polynomial(1, 1, what), 1, 1);
        CHECK.ratio("norm", row(-4, 2, 2), (x, what) -> x.norm(1, what), 3, 1);
        CHECK.ratio("norm", row(-4, 2, -1), (x, what) -> x.norm(1, what), 0, 1);
        CHECK.ratio("rule", row(-6, 4), (x, what) -> x.rule(0, 0, what), -2, 3);
        CHECK.ratio("rule", row(-6, 0), (x, what) -> x.rule(0, 0, what), 0, 1);
        CHECK.ratio("value", row(-6, 4), (x, what) -> x.value(1, 2, 6, what), 1, 1);
        CHECK.ratio("value", row(-6, 4), (x, what) -> x.value(1, -6, 9, what), 0, 1);
        CHECK.ratio("value", row(-6, 4), (x, what) -> x.value(1, -8, 9, what), -2, 9);
        CHECK.ratio("fraction", row(-6, 4), (x, what) -> x.fraction(1, 2, 2, what), -18, 5);
        CHECK.ratio("fraction", row(0, 1, 0, 0), (x, what) -> x.fraction(2, -2, 4, what), 4, 1);
        // P of 2 is x squared less x: the mean of (x and y less 1) is m1.
        CHECK.ratio("fraction", row(0, 1, 1, 1), (x, what) -> x.fraction(2, 1, 2, what), -4, 1);
        CHECK.ratio("fraction", row(1, 0, -25, 0), (x, what) -> x.fraction(2, 0, 3, what), 0, 1);
        CHECK.ratio("step", row(-6, 4), (x, what) -> x.step(1, what), -2, 3);
        CHECK.ratio("weight", row(1, 2), (x, what) -> x.weight(Check.bits(-9, -3), -9, what),
                -5, 6);
        CHECK.ratio("weight", row(1, 2), (x, what) -> x.weight(Check.bits(-9, -3), -3, what),
                11, 6);
        CHECK.ratio("weight", row(0, 0), (x, what) -> x.weight(Check.bits(-9, -3), -3, what), 0, 1);
    }
}
