import java.util.Arrays;
import java.util.function.Supplier;

/**
 * The boundaries that each promise names for its own call: the last number that is as told and
 * the first that is not, for every number that a call takes.
 */
public final class BoundariesTest {
    private static final int NONE = Check.NONE, BAD = Check.BAD, NO = Check.NO, FULL = Check.FULL;
    private static final Check CHECK = new Check();
    /** All norms of it are above 0; P of 3 is x (x squared less 3 by 2), of 2 x squared less 1. */
    private static final int[] MANY = {4, 0, 4, 0, 6, 0, 16};
    private static final Supplier<SquaredRows> SEVEN = Check.row(MANY);

    public static void main(String[] args) {
        newObject();
        moment();
        more();
        less();
        adds();
        moves();
        stretches();
        weighs();
        of();
        determinant();
        polynomial();
        norm();
        rule();
        verdict();
        value();
        under();
        zero();
        zeroTooFar();
        weight();
        exact();
        fraction();
        step();
        back();
        told();
        digest();
        CHECK.end();
    }

    private static Supplier<SquaredRows> row(int... moments) {
        return Check.row(moments);
    }

    private static int[] first(int number, int... moments) {
        return Arrays.copyOf(moments, number);
    }

    private static int[] ends(int least, int most) {
        return new int[] {least, most};
    }

    private static long[] wants(long atLeast, long atMost) {
        return new long[] {atLeast, atMost};
    }

    private static void newObject() {
        CHECK.sentence("1 a new object: as told");
        int[] tallies = {0, 0, 0, 0, 1, 0};
        for (int what = 0; what <= 5; what++) {
            int asked = what;
            CHECK.answers("told(" + what + ")", SquaredRows::new, x -> x.told(asked),
                    tallies[what]);
        }
        CHECK.answers("of(0)", SquaredRows::new, x -> x.of(0), 1);
        CHECK.answers("reads()", SquaredRows::new, x -> x.reads(), -10);
        CHECK.answers("clear()", SquaredRows::new, x -> x.clear(), 0);
        CHECK.refused("of(1)", SquaredRows::new, x -> x.of(1), BAD);
        CHECK.refused("back()", SquaredRows::new, x -> x.back(), NO);
        CHECK.refused("less()", SquaredRows::new, x -> x.less(), NO);
    }

    // ---- the row

    private static void moment() {
        for (int size = 1; size <= 7; size++) {
            Supplier<SquaredRows> some = row(first(size, MANY));
            CHECK.sentence("2 moment. BAD: j 0 .. K less 1");
            CHECK.outside("K " + size + ", j", some, (x, j) -> x.moment(j, 5), 0, size - 1);
            for (int j = 0; j < size; j++) {
                int at = j;
                int[] then = first(size, MANY);
                then[j] = -500;
                CHECK.sentence("2 moment: mj becomes v: what it was");
                CHECK.changes("K " + size + ", moment(" + j + ", -500)", some,
                        x -> x.moment(at, -500), MANY[j], then);
                CHECK.sentence("2 moment. BAD: v -500 .. 500");
                CHECK.outside("K " + size + ", j " + j + ", v", some, (x, v) -> x.moment(at, v),
                        -500, 500);
            }
        }
    }

    private static void more() {
        for (int size = 1; size <= 6; size++) {
            CHECK.sentence("3 more: a MOMENT more, v, behind the last: K then");
            int[] then = first(size + 1, MANY);
            then[size] = 500;
            CHECK.changes("K " + size, row(first(size, MANY)), x -> x.more(500), size + 1, then);
            then[size] = -500;
            CHECK.changes("K " + size, row(first(size, MANY)), x -> x.more(-500), size + 1, then);
            CHECK.sentence("3 more. BAD");
            CHECK.outside("K " + size, row(first(size, MANY)), (x, v) -> x.more(v), -500, 500);
        }
        CHECK.sentence("3 more. FULL: 7");
        CHECK.refused("K 7", SEVEN, x -> x.more(0), FULL);
        CHECK.refused("K 7", SEVEN, x -> x.more(500), FULL);
        CHECK.outside("K 7", SEVEN, (x, v) -> x.more(v), -500, 500);
    }

    private static void less() {
        CHECK.sentence("4 less: the last MOMENT goes: K then");
        for (int size = 2; size <= 7; size++) {
            CHECK.changes("K " + size, row(first(size, MANY)), x -> x.less(), size - 1,
                    first(size - 1, MANY));
        }
        CHECK.sentence("4 less. NO: K is 1");
        CHECK.refused("K 1", row(4), x -> x.less(), NO);
    }

    private static void adds() {
        CHECK.sentence("5 adds: x (-9 .. 9), w (-99 .. 99): m0 then. BAD");
        CHECK.changes("x 9", row(3, 4, 5), x -> x.adds(9, 1), 4, 4, 13, 86);
        CHECK.changes("x -9", row(3, 4, 5), x -> x.adds(-9, 1), 4, 4, -5, 86);
        CHECK.changes("w 99", row(3, 4, 5), x -> x.adds(-1, 99), 102, 102, -95, 104);
        CHECK.changes("w -99", row(3, 4, 5), x -> x.adds(-1, -99), -96, -96, 103, -94);
        CHECK.outside("x", row(3, 4, 5), (x, v) -> x.adds(v, 0), -9, 9);
        CHECK.outside("w", row(3, 4, 5), (x, v) -> x.adds(0, v), -99, 99);
        CHECK.sentence("5 adds. NO: one would be refused");
        CHECK.refused("x 9", row(3, 4, 5), x -> x.adds(9, 7), NO);
        CHECK.refused("x -9", row(3, 4, 5), x -> x.adds(-9, 7), NO);
        CHECK.changes("x 9", row(3, 4, 5), x -> x.adds(9, 6), 9, 9, 58, 491);
    }

    private static void moves() {
        CHECK.sentence("6 moves: c (-9 .. 9): the last MOMENT then. BAD");
        CHECK.changes("9", row(3, 4, 5), x -> x.moves(9), 320, 3, 31, 320);
        CHECK.changes("-9", row(3, 4, 5), x -> x.moves(-9), 176, 3, -23, 176);
        CHECK.changes("one", row(3), x -> x.moves(9), 3, 3);
        CHECK.outside("c", row(3, 4, 5), (x, c) -> x.moves(c), -9, 9);
        CHECK.outside("c, one", row(3), (x, c) -> x.moves(c), -9, 9);
        CHECK.sentence("6 moves. NO, likewise");
        CHECK.refused("9", row(3, 15, 5), x -> x.moves(9), NO);
        CHECK.refused("-9", row(3, -15, 5), x -> x.moves(-9), NO);
    }

    private static void stretches() {
        CHECK.sentence("7 stretches: c (-9 .. 9): the last MOMENT then. BAD");
        CHECK.changes("9", row(3, 4, 5), x -> x.stretches(9), 405, 3, 36, 405);
        CHECK.changes("-9", row(3, 4, 5), x -> x.stretches(-9), 405, 3, -36, 405);
        CHECK.changes("one", row(3), x -> x.stretches(-9), 3, 3);
        CHECK.outside("c", row(3, 4, 5), (x, c) -> x.stretches(c), -9, 9);
        CHECK.outside("c, one", row(3), (x, c) -> x.stretches(c), -9, 9);
        CHECK.sentence("7 stretches. NO, likewise");
        CHECK.refused("9", row(3, 4, 7), x -> x.stretches(9), NO);
        CHECK.refused("-9", row(3, 4, 7), x -> x.stretches(-9), NO);
    }

    private static void weighs() {
        CHECK.sentence("8 weighs: c (-9 .. 9): m0 then. BAD");
        CHECK.changes("9", row(3, 4, 5), x -> x.weighs(9), -23, -23, -31);
        CHECK.changes("-9", row(3, 4, 5), x -> x.weighs(-9), 31, 31, 41);
        CHECK.outside("c", row(3, 4, 5), (x, c) -> x.weighs(c), -9, 9);
        CHECK.outside("c, one", row(3), (x, c) -> x.weighs(c), -9, 9);
        CHECK.sentence("8 weighs. NO: K is 1, or likewise");
        CHECK.refused("one", row(3), x -> x.weighs(0), NO);
        CHECK.refused("one", row(3), x -> x.weighs(9), NO);
        CHECK.refused("9", row(56, 0, 0), x -> x.weighs(9), NO);
        CHECK.refused("-9", row(3, 56, 0), x -> x.weighs(-9), NO);
        CHECK.changes("seven", SEVEN, x -> x.weighs(1), -4, -4, 4, -4, 6, -6, 16);
    }

    private static void of() {
        CHECK.sentence("9 of: mj. BAD: j 0 .. K less 1");
        for (int size = 1; size <= 7; size++) {
            int[] moments = first(size, -500, 500, 3, 4, 5, 6, 7);
            for (int j = 0; j < size; j++) {
                int at = j;
                CHECK.answers("K " + size + ", of(" + j + ")", row(moments), x -> x.of(at),
                        moments[j]);
            }
            CHECK.outside("K " + size + ", j", row(moments), (x, j) -> x.of(j), 0, size - 1);
        }
    }

    // ---- determinants, polynomials

    private static void determinant() {
        CHECK.sentence("10 determinant. BAD: s 0 .. 6, n 0 .. 4; NO: the TABLE is not THERE");
        for (int n = 0; n <= 4; n++) {
            int size = n;
            CHECK.outside("size " + n + ", s", SEVEN, (x, s) -> x.determinant(s, size), 0, 6);
            CHECK.outside("one, size " + n + ", s", row(4), (x, s) -> x.determinant(s, size), 0, 6);
        }
        for (int s = 0; s <= 6; s++) {
            int from = s;
            CHECK.outside("from " + s + ", n", SEVEN, (x, n) -> x.determinant(from, n), 0, 4);
            int greatest = s == 0 ? 4 : (8 - s) / 2;
            if (greatest < 4) {
                CHECK.refused("from " + s + ", n " + (greatest + 1), SEVEN,
                        x -> x.determinant(from, greatest + 1), NO);
            }
        }
        CHECK.answers("0, 4", SEVEN, x -> x.determinant(0, 4), 224);
        CHECK.answers("2, 3", SEVEN, x -> x.determinant(2, 3), 168);
        CHECK.answers("4, 2", SEVEN, x -> x.determinant(4, 2), 96);
        CHECK.answers("6, 1", SEVEN, x -> x.determinant(6, 1), 16);
        CHECK.answers("6, 0", row(4), x -> x.determinant(6, 0), 1);
    }

    private static void polynomial() {
        CHECK.sentence("11 polynomial: n 0 .. 3, j 0 .. n, what 0 .. 1. BAD");
        CHECK.bounds("n", SEVEN, (x, n) -> x.polynomial(n, 0, 1), ends(0, 3), wants(1, 1));
        int[][] above = {{1}, {0, 1}, {-1, 0, 1}, {0, -3, 0, 1}};
        for (int n = 0; n <= 3; n++) {
            int degree = n;
            CHECK.outside("j of " + n, SEVEN, (x, j) -> x.polynomial(degree, j, 0), 0, n);
            for (int j = 0; j <= n; j++) {
                int at = j;
                CHECK.ratio("P of " + n + " at " + j, SEVEN,
                        (x, what) -> x.polynomial(degree, at, what), above[n][j],
                        n == 3 && j == 1 ? 2 : 1);
                CHECK.outside("what of " + n + ", " + j, SEVEN,
                        (x, what) -> x.polynomial(degree, at, what), 0, 1);
            }
        }
        CHECK.sentence("11 polynomial. NO: P of n is not");
        CHECK.refused("n 1, K 1", row(4), x -> x.polynomial(1, 1, 0), NO);
        CHECK.refused("n 1, DET 0", row(0, 4), x -> x.polynomial(1, 1, 1), NO);
    }

    private static void norm() {
        CHECK.sentence("12 norm: n 0 .. 3, what 0 .. 1. BAD");
        CHECK.bounds("n", SEVEN, (x, n) -> x.norm(n, 0), ends(0, 3), wants(4, 7));
        for (int n = 0; n <= 3; n++) {
            int degree = n;
            CHECK.outside("what of " + n, SEVEN, (x, what) -> x.norm(degree, what), 0, 1);
        }
        CHECK.bounds("what", row(3, 1, 5), (x, what) -> x.norm(1, what), ends(0, 1), wants(14, 3));
        CHECK.sentence("12 norm. NO: there is none");
        CHECK.refused("K 2", row(3, 1), x -> x.norm(1, 0), NO);
        CHECK.refused("DET 0", row(0, 1, 5), x -> x.norm(1, 1), NO);
    }

    private static void rule() {
        CHECK.sentence("13 rule: A (which 0) of n (0 .. 2), B (1) of n (1 .. 2). BAD");
        int[] moments = {3, 1, 5, 1, 11, 3};
        CHECK.bounds("which", row(moments), (x, which) -> x.rule(which, 1, 0), ends(0, 1),
                wants(-10, 14));
        CHECK.bounds("n of A", SEVEN, (x, n) -> x.rule(0, n, 1), ends(0, 2), wants(1, 1));
        CHECK.bounds("n of B", SEVEN, (x, n) -> x.rule(1, n, 1), ends(1, 2), wants(1, 2));
        CHECK.bounds("what of A", row(moments), (x, what) -> x.rule(0, 1, what), ends(0, 1),
                wants(-10, 21));
        CHECK.bounds("what of B", row(moments), (x, what) -> x.rule(1, 1, what), ends(0, 1),
                wants(14, 9));
        CHECK.refused("which 2, n 0", SEVEN, x -> x.rule(2, 0, 0), BAD);
        CHECK.refused("which -1, n 0", SEVEN, x -> x.rule(-1, 0, 0), BAD);
        CHECK.refused("which -1, n -1", SEVEN, x -> x.rule(-1, -1, 0), BAD);
        CHECK.refused("which 2, n 2", SEVEN, x -> x.rule(2, 2, 0), BAD);
        CHECK.sentence("13 rule. NO: it is not");
        CHECK.refused("A of 2, K 5", row(first(5, MANY)), x -> x.rule(0, 2, 0), NO);
        CHECK.refused("B of 2, K 5", row(first(5, MANY)), x -> x.rule(1, 2, 0), NO);
    }

    private static void verdict() {
        CHECK.sentence("14 verdict: what 0 .. 3. BAD");
        CHECK.bounds("what", row(1, 2, 4, 9), (x, what) -> x.verdict(what), ends(0, 3),
                wants(0, 2));
        CHECK.bounds("what", SEVEN, (x, what) -> x.verdict(what), ends(0, 3), wants(2, NONE));
        CHECK.sentence("14 verdict: by what NONE is refused (else NONE), j of that REST");
        CHECK.answers("NONE by a REST, n", row(1, 2, 4, 9), x -> x.verdict(1), 1);
        CHECK.answers("NONE by a REST", row(1, 2, 4, 9), x -> x.verdict(2), 1);
        CHECK.answers("NONE by a SQUARE", row(-1), x -> x.verdict(0), 0);
        CHECK.answers("NONE by a SQUARE", row(-1), x -> x.verdict(2), 0);
        CHECK.answers("NONE by a SQUARE", row(-1), x -> x.verdict(3), NONE);
        CHECK.answers("ONE", row(0), x -> x.verdict(0), 1);
        CHECK.answers("ONE", row(0), x -> x.verdict(2), NONE);
        CHECK.answers("ONE", row(0), x -> x.verdict(3), NONE);
        CHECK.answers("MANY", row(1), x -> x.verdict(1), 1);
        CHECK.answers("MANY", row(1), x -> x.verdict(2), NONE);
    }

    // ---- zeros, rules

    private static void value() {
        CHECK.sentence("15 value: n 0 .. 3, a -99 .. 99, b 1 .. 9, what 0 .. 1. BAD");
        CHECK.bounds("n", SEVEN, (x, n) -> x.value(n, 3, 1, 0), ends(0, 3), wants(1, 45));
        for (int n = 0; n <= 3; n++) {
            int degree = n;
            CHECK.outside("a of " + n, SEVEN, (x, a) -> x.value(degree, a, 1, 0), -99, 99);
            CHECK.outside("b of " + n, SEVEN, (x, b) -> x.value(degree, 1, b, 0), 1, 9);
            CHECK.outside("what of " + n, SEVEN, (x, what) -> x.value(degree, 1, 1, what), 0, 1);
        }
        CHECK.bounds("a", SEVEN, (x, a) -> x.value(2, a, 1, 0), ends(-99, 99), wants(9800, 9800));
        CHECK.bounds("a", SEVEN, (x, a) -> x.value(1, a, 1, 0), ends(-99, 99), wants(-99, 99));
        CHECK.bounds("b", SEVEN, (x, b) -> x.value(1, 1, b, 1), ends(1, 9), wants(1, 9));
        CHECK.bounds("what", SEVEN, (x, what) -> x.value(2, 5, 3, what), ends(0, 1), wants(16, 9));
        CHECK.sentence("15 value, at the greatest numbers");
        int[] great = {-486, 499, -499, -498, -495, -500, 493};
        CHECK.ratio("-98 by 9", row(great), (x, what) -> x.value(3, -98, 9, what),
                -509513071519163L, 361582180416L);
        CHECK.ratio("98 by 9", row(great), (x, what) -> x.value(3, 98, 9, what),
                424098251050889L, 361582180416L);
        CHECK.sentence("15 value. NO: P of n is not");
        CHECK.refused("K 1", row(4), x -> x.value(1, 0, 1, 0), NO);
        CHECK.refused("K 5", row(first(5, MANY)), x -> x.value(3, 0, 1, 0), NO);
        CHECK.ratio("n 0, K 1", row(0), (x, what) -> x.value(0, -99, 9, what), 1, 1);
    }

    private static void under() {
        CHECK.sentence("16 under: n 1 .. 3, a -99 .. 99, b 1 .. 9. BAD");
        CHECK.bounds("n", SEVEN, (x, n) -> x.under(n, 99, 1), ends(1, 3), wants(1, 3));
        for (int n = 1; n <= 3; n++) {
            int degree = n;
            CHECK.bounds("a of " + n, SEVEN, (x, a) -> x.under(degree, a, 1), ends(-99, 99),
                    wants(0, n));
            CHECK.outside("b of " + n, SEVEN, (x, b) -> x.under(degree, 9, b), 1, 9);
        }
        CHECK.bounds("b", SEVEN, (x, b) -> x.under(2, 9, b), ends(1, 9), wants(2, 1));
        CHECK.sentence("16 under. NO: P of n is not, or a NORM ahead of it is not above 0");
        CHECK.refused("K 1", row(4), x -> x.under(1, 0, 1), NO);
        CHECK.refused("NORM of 0 is 0", row(0, 4), x -> x.under(1, 0, 1), NO);
        CHECK.refused("NORM of 0 is -1", row(-1, 4), x -> x.under(1, 0, 1), NO);
        CHECK.answers("NORM of 0 is 1", row(1, 4), x -> x.under(1, 0, 1), 0);
    }

    private static void zero() {
        CHECK.sentence("17 zero: n 1 .. 3, i 0 .. n less 1, p 1 .. 9. BAD");
        CHECK.bounds("n", SEVEN, (x, n) -> x.zero(n, 0, 9), ends(1, 3), wants(0, -12));
        long[] last = {0, 9, 11};
        long[] least = {0, -9, -12};
        for (int n = 1; n <= 3; n++) {
            int degree = n;
            CHECK.bounds("i of " + n, SEVEN, (x, i) -> x.zero(degree, i, 9), ends(0, n - 1),
                    wants(least[n - 1], last[n - 1]));
            CHECK.outside("p of " + n, SEVEN, (x, p) -> x.zero(degree, degree - 1, p), 1, 9);
        }
        CHECK.bounds("p", SEVEN, (x, p) -> x.zero(3, 2, p), ends(1, 9), wants(1, 11));
        CHECK.sentence("17 zero: z by p or more, below z and 1 by p");
        CHECK.answers("just so", row(9, 7), x -> x.zero(1, 0, 9), 7);
        CHECK.answers("just below", row(500, 388), x -> x.zero(1, 0, 9), 6);
        CHECK.answers("just above", row(500, 389), x -> x.zero(1, 0, 9), 7);
        CHECK.answers("just so, below 0", row(9, -7), x -> x.zero(1, 0, 9), -7);
        CHECK.answers("just below, below 0", row(500, -389), x -> x.zero(1, 0, 9), -8);
        CHECK.answers("just above, below 0", row(500, -388), x -> x.zero(1, 0, 9), -7);
        CHECK.sentence("17 zero. NO, likewise");
        CHECK.refused("K 1", row(4), x -> x.zero(1, 0, 1), NO);
        CHECK.refused("NORM of 0 is 0", row(0, 4), x -> x.zero(1, 0, 1), NO);
        CHECK.refused("NORM of 0 is -1", row(-1, 4), x -> x.zero(1, 0, 1), NO);
        CHECK.answers("NORM of 0 is 1", row(1, 4), x -> x.zero(1, 0, 1), 4);
    }

    private static void zeroTooFar() {
        CHECK.sentence("17 zero. NONE: it is below -99, or 99 or more");
        for (int part = 1; part <= 9; part++) {
            int p = part;
            CHECK.answers("-99", row(1, -99), x -> x.zero(1, 0, p), -99 * p);
            CHECK.answers("just below -99", row(5, -496), x -> x.zero(1, 0, p), NONE);
            CHECK.answers("just above -99", row(5, -494), x -> x.zero(1, 0, p),
                    Math.floorDiv(-494 * p, 5));
            CHECK.answers("-100", row(1, -100), x -> x.zero(1, 0, p), NONE);
            CHECK.answers("99", row(1, 99), x -> x.zero(1, 0, p), NONE);
            CHECK.answers("just below 99", row(5, 494), x -> x.zero(1, 0, p), 494 * p / 5);
            CHECK.answers("just above 99", row(5, 496), x -> x.zero(1, 0, p), NONE);
            CHECK.answers("500", row(1, 500), x -> x.zero(1, 0, p), NONE);
            CHECK.answers("-500", row(1, -500), x -> x.zero(1, 0, p), NONE);
            // P of 2 is x (x less m3) less 1 by 500, nearly; one zero is far, one is near.
            zerosOfTwo(p, 99, -1, NONE);
            zerosOfTwo(p, 98, -1, 98 * p);
            zerosOfTwo(p, -99, NONE, 0);
            zerosOfTwo(p, -98, -98 * p - 1, 0);
            // P of 3 is (x less m5) (x squared less 1 by 5) less x by 100.
            zerosOfThree(p, 99, NONE);
            zerosOfThree(p, 98, 98 * p);
        }
        CHECK.answers("the two near ones, of 99", row(500, 0, 100, 0, 21, 99),
                x -> x.zero(3, 0, 9), -5);
        CHECK.answers("the two near ones, of 99", row(500, 0, 100, 0, 21, 99),
                x -> x.zero(3, 1, 9), 4);
        CHECK.answers("the far one, of -99", row(500, 0, 100, 0, 21, -99),
                x -> x.zero(3, 0, 9), NONE);
        CHECK.answers("the far one, of -98", row(500, 0, 100, 0, 21, -98),
                x -> x.zero(3, 0, 9), -98 * 9 - 1);
    }

    private static void zerosOfTwo(int p, int far, long least, long last) {
        Supplier<SquaredRows> some = row(500, 0, 1, far);
        CHECK.answers("P of 2, near " + far + ", 0", some, x -> x.zero(2, 0, p), least);
        CHECK.answers("P of 2, near " + far + ", 1", some, x -> x.zero(2, 1, p), last);
    }

    private static void zerosOfThree(int p, int far, long last) {
        CHECK.answers("P of 3, near " + far, row(500, 0, 100, 0, 21, far),
                x -> x.zero(3, 2, p), last);
    }

    private static void weight() {
        CHECK.sentence("18 weight. BAD: no such set, x is none of it");
        int ends = Check.bits(-9, 9);
        CHECK.bounds("x", row(2, 0), (x, place) -> x.weight(ends, place, 0), ends(-9, 9),
                wants(1, 1));
        for (int place = -8; place <= 8; place++) {
            int none = place;
            CHECK.refused("x " + place, row(2, 0), x -> x.weight(ends, none, 0), BAD);
        }
        // Bits are counted by 32 where a number is shifted too far.
        CHECK.refused("x 32 more", row(2, 0), x -> x.weight(ends, -9 + 32, 0), BAD);
        CHECK.refused("x 32 less", row(2, 0), x -> x.weight(ends, 9 - 32, 0), BAD);
        CHECK.outside("what", row(2, 0), (x, what) -> x.weight(ends, 9, what), 0, 1);
        CHECK.refused("no place", SEVEN, x -> x.weight(0, -9, 0), BAD);
        CHECK.refused("eight places", SEVEN, x -> x.weight(255, -9, 0), BAD);
        CHECK.refused("place 10", SEVEN, x -> x.weight(1 << 19, 10, 0), BAD);
        CHECK.ratio("seven places", row(0, 0, 0, 0, 0, 0, 1),
                (x, what) -> x.weight(127, -9, what), 1, 720);
        CHECK.sentence("18 weight. NO: they are more than K");
        CHECK.refused("two of one", row(2), x -> x.weight(ends, 9, 0), NO);
        CHECK.refused("seven of six", row(first(6, MANY)), x -> x.weight(127, -9, 0), NO);
    }

    private static void exact() {
        CHECK.sentence("19 exact. BAD; NO, likewise");
        CHECK.bounds("places", SEVEN, (x, set) -> x.exact(set), ends(1, 127 << 12), wants(0, 6));
        CHECK.answers("bit 18 alone", SEVEN, x -> x.exact(1 << 18), 0);
        CHECK.refused("bit 19 alone", SEVEN, x -> x.exact(1 << 19), BAD);
        CHECK.refused("bit 19 too", SEVEN, x -> x.exact(1 << 19 | 1), BAD);
        CHECK.refused("eight places", SEVEN, x -> x.exact(255 << 11), BAD);
        CHECK.refused("eight places, K 1", row(4), x -> x.exact(255), BAD);
        CHECK.refused("seven places, K 6", row(first(6, MANY)), x -> x.exact(127), NO);
        CHECK.answers("six places, K 6", row(first(6, MANY)), x -> x.exact(63), 5);
        CHECK.refused("two places, K 1", row(4), x -> x.exact(3), NO);
        CHECK.answers("one place, K 1", row(4), x -> x.exact(2), 0);
    }

    // ---- fractions within fractions

    private static void fraction() {
        CHECK.sentence("20 fraction: n 1 .. 3, a -20 .. 20, b 1 .. 4, what 0 .. 1. BAD");
        CHECK.bounds("n", SEVEN, (x, n) -> x.fraction(n, 2, 1, 0), ends(1, 3), wants(2, 14));
        for (int n = 1; n <= 3; n++) {
            int degree = n;
            CHECK.outside("a of " + n, SEVEN, (x, a) -> x.fraction(degree, a, 1, 0), -20, 20);
            CHECK.outside("b of " + n, SEVEN, (x, b) -> x.fraction(degree, 5, b, 0), 1, 4);
            CHECK.outside("what of " + n, SEVEN, (x, what) -> x.fraction(degree, 5, 1, what), 0, 1);
        }
        CHECK.bounds("a", SEVEN, (x, a) -> x.fraction(1, a, 3, 0), ends(-20, 20), wants(-3, 3));
        CHECK.bounds("a", SEVEN, (x, a) -> x.fraction(2, a, 1, 0), ends(-20, 20), wants(-80, 80));
        CHECK.bounds("b", SEVEN, (x, b) -> x.fraction(1, 1, b, 0), ends(1, 4), wants(4, 16));
        CHECK.bounds("what", SEVEN, (x, what) -> x.fraction(1, 3, 1, what), ends(0, 1),
                wants(4, 3));
        CHECK.sentence("20 fraction. NO: P of n is not, or is 0 there");
        CHECK.refused("K 1", row(4), x -> x.fraction(1, 1, 1, 0), NO);
        CHECK.refused("DET 0", row(0, 4), x -> x.fraction(1, 1, 1, 0), NO);
        CHECK.refused("P of 1 is 0", SEVEN, x -> x.fraction(1, 0, 1, 0), NO);
        CHECK.refused("P of 2 is 0", SEVEN, x -> x.fraction(2, 4, 4, 1), NO);
        CHECK.refused("P of 3 is 0", SEVEN, x -> x.fraction(3, 0, 2, 1), NO);
    }

    private static void step() {
        CHECK.sentence("21 step: k 1 .. 6, what 0 .. 1. BAD");
        Supplier<SquaredRows> some = row(1, 1, 2, 6, 24, 120, 500);
        CHECK.bounds("k", some, (x, k) -> x.step(k, 0), ends(1, 6), wants(1, -46));
        for (int k = 1; k <= 6; k++) {
            int at = k;
            CHECK.outside("what of " + k, some, (x, what) -> x.step(at, what), 0, 1);
        }
        CHECK.bounds("what", some, (x, what) -> x.step(6, what), ends(0, 1), wants(-46, 3));
        CHECK.sentence("21 step. NO: it is not");
        CHECK.refused("K 1", row(1), x -> x.step(1, 0), NO);
        CHECK.refused("by 0", row(0, 1), x -> x.step(1, 0), NO);
        CHECK.refused("by 0", SEVEN, x -> x.step(2, 0), NO);
    }

    // ---- texts

    private static void back() {
        CHECK.sentence("25 back: a STATE back: how many can be yet. NO: none");
        CHECK.refused("none", SquaredRows::new, x -> x.back(), NO);
        SquaredRows x = row(3, 4).get();
        CHECK.due("back", x.back(), 1);
        CHECK.due("K", x.told(4), 2);
        CHECK.due("m1", x.of(1), 9);
        CHECK.due("back", x.back(), 0);
        CHECK.due("K", x.told(4), 1);
        CHECK.due("refused", x.told(1), 0);
        CHECK.due("back", x.back(), NO);
        CHECK.due("refused", x.told(1), 1);
        CHECK.due("back", x.back(), NO);
        CHECK.due("refused", x.told(1), 2);
        CHECK.due("K", x.told(4), 1);
        CHECK.due("m0", x.of(0), 1);
        CHECK.due("a new one", x.more(6), 2);
        CHECK.due("states", x.told(5), 1);
        CHECK.due("back", x.back(), 0);
        CHECK.due("K", x.told(4), 1);
    }

    private static void told() {
        CHECK.sentence("26 told: what 0 .. 5. BAD");
        CHECK.bounds("what", SEVEN, (x, what) -> x.told(what), ends(0, 5), wants(0, 2));
        CHECK.sentence("26 told: how often refused, by what was answered");
        SquaredRows x = SEVEN.get();
        int bytes = x.told(3);
        x.told(6);
        x.told(6);
        x.told(6);
        x.more(1);
        x.more(1);
        x.step(2, 0);
        int[] tallies = {3, 1, 2, bytes, 7, 2};
        for (int what = 0; what <= 5; what++) {
            CHECK.due("told(" + what + ")", x.told(what), tallies[what]);
        }
    }

    private static void digest() {
        CHECK.sentence("27 digest: TABLES that are THERE, each P that is");
        int[][] rows = {MANY, {0, 0, 0, 0, 0, 0, 0}, {0, 1, 1, 1, 0, 0, 5}, {1, 1, 1, 2, 0, 0, 3},
            {-1, 2, -4, 8, -16, 32, -64}, {500, -500, 500, -500, 500, 500, 500},
            {-500, -500, -500, 500, -500, -500, -500}, {-486, 499, -499, -498, -495, -500, 493}};
        for (int[] moments : rows) {
            for (int size = 1; size <= 7; size++) {
                SquaredRows x = row(first(size, moments)).get();
                x.told(size);
                CHECK.due("digest of " + size + " of " + Arrays.toString(moments), x.digest(),
                        digestOf(x, row(first(size, moments)).get()));
            }
        }
        CHECK.sentence("27 digest: told(0) to told(5)");
        SquaredRows y = SEVEN.get();
        long before = y.digest();
        CHECK.due("asked again", y.digest(), before);
        y.told(6);
        CHECK.due("refused once more", y.digest() == before ? 1 : 0, 0);
    }

    /** By the other calls; those that may be refused are asked of another object, made alike. */
    private static long digestOf(SquaredRows x, SquaredRows other) {
        long h = 2357;
        for (int what = 0; what <= 5; what++) {
            h = 31 * h + x.told(what);
        }
        for (int j = 0; j < x.told(4); j++) {
            h = 31 * h + x.of(j);
        }
        for (int what = 0; what <= 3; what++) {
            h = 31 * h + x.verdict(what);
        }
        for (int n = 0; n <= 4; n++) {
            if (n == 0 || x.told(4) > 2 * (n - 1)) {
                h = 31 * h + other.determinant(0, n);
            }
        }
        for (int n = 1; n <= 3; n++) {
            for (int j = 0; j < n && other.polynomial(n, n, 0) == 1; j++) {
                h = 31 * h + other.polynomial(n, j, 0);
                h = 31 * h + other.polynomial(n, j, 1);
            }
        }
        return h;
    }
}
