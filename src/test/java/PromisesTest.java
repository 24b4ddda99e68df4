import java.util.ArrayList;
import java.util.List;

/** For each promise: ordinary inputs, the edges that the document names, wrong inputs. */
public final class PromisesTest {
    private static final int NONE = -1000000, BAD = -1000001, NO = -1000002, FULL = -1000003;
    private static int promise;
    private static int wrong;
    private static int asked;

    public static void main(String[] args) {
        newObject();
        moment();
        more();
        less();
        adds();
        moves();
        stretches();
        weighs();
        of();
        determinant();
        polynomial();
        norm();
        rule();
        verdict();
        value();
        under();
        zero();
        weight();
        exact();
        fraction();
        step();
        type();
        clear();
        reads();
        faults();
        back();
        told();
        digest();
        System.out.println(asked + " answers, " + wrong + " not as due");
        if (wrong != 0) {
            System.exit(1);
        }
    }

    private static void due(String call, long got, long want) {
        asked++;
        if (got != want) {
            wrong++;
            System.out.println("promise " + promise + ": " + call + " answered " + got
                    + ", due is " + want);
        }
    }

    private static void ratio(String call, long above, long below, long wantAbove, long wantBelow) {
        due(call + " above", above, wantAbove);
        due(call + " below", below, wantBelow);
    }

    private static SquaredRows row(int... moments) {
        SquaredRows x = new SquaredRows();
        x.moment(0, moments[0]);
        for (int j = 1; j < moments.length; j++) {
            x.more(moments[j]);
        }
        return x;
    }

    private static void rowIs(String call, SquaredRows x, int... moments) {
        due(call + " K", x.told(4), moments.length);
        for (int j = 0; j < moments.length; j++) {
            due(call + " m" + j, x.of(j), moments[j]);
        }
    }

    private static SquaredRows write(SquaredRows x, String text) {
        x.clear();
        for (int i = 0; i < text.length(); i++) {
            x.type(text.charAt(i));
        }
        return x;
    }

    private static int bits(int... places) {
        int set = 0;
        for (int place : places) {
            set |= 1 << (place + 9);
        }
        return set;
    }

    private static void newObject() {
        promise = 1;
        SquaredRows x = new SquaredRows();
        for (int what = 0; what <= 3; what++) {
            due("told " + what, x.told(what), 0);
        }
        due("states", x.told(5), 0);
        rowIs("new", x, 1);
        due("back", new SquaredRows().back(), NO);
    }

    private static void moment() {
        promise = 2;
        SquaredRows x = row(3, -4);
        due("was", x.moment(1, 500), -4);
        due("was", x.moment(1, -500), 500);
        due("same again", x.moment(1, -500), -500);
        due("states", x.told(5), 5);
        due("j", x.moment(2, 0), BAD);
        due("j", x.moment(-1, 0), BAD);
        due("j", x.moment(Integer.MIN_VALUE, 0), BAD);
        due("j", x.moment(Integer.MAX_VALUE, 0), BAD);
        due("v", x.moment(0, 501), BAD);
        due("v", x.moment(0, -501), BAD);
        due("states", x.told(5), 5);
        due("bad", x.told(0), 6);
        rowIs("moment", x, 3, -500);
    }

    private static void more() {
        promise = 3;
        SquaredRows x = new SquaredRows();
        int[] values = {500, -500, 0, 1, 2, 3};
        for (int i = 0; i < values.length; i++) {
            due("more", x.more(values[i]), i + 2);
        }
        due("full", x.more(0), FULL);
        due("bad comes first", x.more(501), BAD);
        due("bad", x.more(-501), BAD);
        due("told 0", x.told(0), 2);
        due("told 2", x.told(2), 1);
        due("states", x.told(5), 6);
        rowIs("more", x, 1, 500, -500, 0, 1, 2, 3);
    }

    private static void less() {
        promise = 4;
        SquaredRows x = row(4, 5, 6);
        due("less", x.less(), 2);
        due("less", x.less(), 1);
        due("less", x.less(), NO);
        due("no", x.told(1), 1);
        due("states", x.told(5), 5);
        rowIs("less", x, 4);
        x.more(7);
        rowIs("more behind", x, 4, 7);
    }

    private static void adds() {
        promise = 5;
        SquaredRows x = row(1, 0, 0, 0);
        due("adds", x.adds(-3, 4), 5);
        rowIs("adds", x, 5, -12, 36, -108);
        due("adds 0", x.adds(0, -99), -94);
        rowIs("adds 0", x, -94, -12, 36, -108);
        due("adds nothing", x.adds(9, 0), -94);
        due("too big", x.adds(9, 1), NO);
        due("too small", x.adds(-9, 1), NO);
        due("x", x.adds(10, 0), BAD);
        due("x", x.adds(-10, 0), BAD);
        due("w", x.adds(0, 100), BAD);
        due("w", x.adds(0, -100), BAD);
        rowIs("refused", x, -94, -12, 36, -108);
        due("no", x.told(1), 2);
        due("states", x.told(5), 6);
        SquaredRows edge = row(401, 0, 0, 0, 0, 0, 0);
        due("500 is in", edge.adds(1, 99), 500);
        due("501 is out", edge.adds(0, 1), NO);
        SquaredRows low = row(-401);
        due("-500 is in", low.adds(1, -99), -500);
        due("-501 is out", low.adds(1, -1), NO);
        due("far", row(0, 0, 0, 0, 0, 0, 0).adds(9, 99), NO);
    }

    private static void moves() {
        promise = 6;
        SquaredRows x = row(1, 2, 4, 8, 16, 32, 64);
        due("2 becomes 1", x.moves(-1), 1);
        rowIs("moved", x, 1, 1, 1, 1, 1, 1, 1);
        due("1 becomes 0", x.moves(-1), 0);
        rowIs("moved", x, 1, 0, 0, 0, 0, 0, 0);
        due("by 0", x.moves(0), 0);
        due("too far", x.moves(3), NO);
        due("c", x.moves(10), BAD);
        due("c", x.moves(-10), BAD);
        rowIs("refused", x, 1, 0, 0, 0, 0, 0, 0);
        SquaredRows y = row(2, 3, 5);
        due("mean of (x and 2) squared", y.moves(2), 25);
        rowIs("moved", y, 2, 7, 25);
        due("one moment stays", row(-7).moves(9), -7);
    }

    private static void stretches() {
        promise = 7;
        SquaredRows x = row(5, 1, 2, 3);
        due("stretches", x.stretches(-5), -375);
        rowIs("stretched", x, 5, -5, 50, -375);
        due("too far", x.stretches(2), NO);
        due("c", x.stretches(10), BAD);
        due("c", x.stretches(-10), BAD);
        due("by 0", x.stretches(0), 0);
        rowIs("by 0", x, 5, 0, 0, 0);
        due("by 9", x.stretches(9), 0);
        due("one moment stays", row(-7).stretches(0), -7);
        due("states", x.told(5), 6);
    }

    private static void weighs() {
        promise = 8;
        SquaredRows x = row(1, 3, -2, 10);
        due("weighs", x.weighs(2), 1);
        rowIs("weighed", x, 1, -8, 14);
        due("too far", row(0, 500, 0).weighs(-1), 500);
        due("too far", row(1, 500, 0).weighs(-1), NO);
        due("too far", row(0, 0, -500, 1, 500).weighs(1), NO);
        due("c", x.weighs(10), BAD);
        due("c", x.weighs(-10), BAD);
        due("weighs", x.weighs(0), -8);
        rowIs("weighed", x, -8, 14);
        due("weighs", x.weighs(-9), -58);
        due("one moment", x.weighs(0), NO);
        due("bad comes first", x.weighs(11), BAD);
        rowIs("weighed", x, -58);
    }

    private static void of() {
        promise = 9;
        SquaredRows x = row(7, -8);
        due("of", x.of(0), 7);
        due("of", x.of(1), -8);
        due("of", x.of(2), BAD);
        due("of", x.of(-1), BAD);
        due("bad", x.told(0), 2);
    }

    private static void determinant() {
        promise = 10;
        SquaredRows x = row(2, 3, 5, 7, 11, 13, 17);
        due("0 0", x.determinant(0, 0), 1);
        due("6 0", x.determinant(6, 0), 1);
        due("6 1", x.determinant(6, 1), 17);
        due("6 2", x.determinant(6, 2), NO);
        due("0 2", x.determinant(0, 2), 2 * 5 - 3 * 3);
        due("4 2", x.determinant(4, 2), 11 * 17 - 13 * 13);
        due("5 2", x.determinant(5, 2), NO);
        due("0 3", x.determinant(0, 3),
                2 * (5 * 11 - 7 * 7) - 3 * (3 * 11 - 7 * 5) + 5 * (3 * 7 - 5 * 5));
        due("2 3", x.determinant(2, 3),
                5 * (11 * 17 - 13 * 13) - 7 * (7 * 17 - 13 * 11) + 11 * (7 * 13 - 11 * 11));
        due("3 3", x.determinant(3, 3), NO);
        due("1 4", x.determinant(1, 4), NO);
        due("swapped lines", row(0, 0, 0, 1, 0, 0, 0).determinant(0, 4), 1);
        due("swapped lines of 3", row(0, 0, 1, 0, 0).determinant(0, 3), -1);
        due("greatest", row(500, -500, 500, -500, 500, 500, 500).determinant(0, 4), 0);
        due("s", x.determinant(-1, 0), BAD);
        due("s", x.determinant(7, 0), BAD);
        due("n", x.determinant(0, -1), BAD);
        due("n", x.determinant(0, 5), BAD);
        due("size 0 is always there", row(1).determinant(6, 0), 1);
    }

    private static void polynomial() {
        promise = 11;
        SquaredRows x = row(3, 1, 5, 1);
        // 3 places: the mean is 1 by 3; x squared less 1 by 3 .. from the equations by hand.
        ratio("P1 at 0", x.polynomial(1, 0, 0), x.polynomial(1, 0, 1), -1, 3);
        ratio("P1 at 1", x.polynomial(1, 1, 0), x.polynomial(1, 1, 1), 1, 1);
        // a + b x: 5 + 3 a + b = 0 and 1 + a + 5 b = 0.
        ratio("P2 at 0", x.polynomial(2, 0, 0), x.polynomial(2, 0, 1), -12, 7);
        ratio("P2 at 1", x.polynomial(2, 1, 0), x.polynomial(2, 1, 1), 1, 7);
        ratio("P2 at 2", x.polynomial(2, 2, 0), x.polynomial(2, 2, 1), 1, 1);
        due("P3 needs six", x.polynomial(3, 0, 0), NO);
        SquaredRows even = row(4, 0, 4, 0, 6, 0);
        ratio("P3 at 0", even.polynomial(3, 0, 0), even.polynomial(3, 0, 1), 0, 1);
        ratio("P3 at 1", even.polynomial(3, 1, 0), even.polynomial(3, 1, 1), -3, 2);
        ratio("P0", even.polynomial(0, 0, 0), even.polynomial(0, 0, 1), 1, 1);
        SquaredRows minus = row(-2, 1);
        ratio("below above 0", minus.polynomial(1, 0, 0), minus.polynomial(1, 0, 1), 1, 2);
        SquaredRows nothing = row(0, 1, 1, 1);
        due("P1 is not", nothing.polynomial(1, 0, 0), NO);
        ratio("P2 is", nothing.polynomial(2, 0, 0), nothing.polynomial(2, 0, 1), 0, 1);
        ratio("P2 is", nothing.polynomial(2, 1, 0), nothing.polynomial(2, 1, 1), -1, 1);
        due("P0 always", row(0).polynomial(0, 0, 0), 1);
        due("n", x.polynomial(4, 0, 0), BAD);
        due("n", x.polynomial(-1, 0, 0), BAD);
        due("j", x.polynomial(1, 2, 0), BAD);
        due("j", x.polynomial(1, -1, 0), BAD);
        due("what", x.polynomial(1, 0, 2), BAD);
        due("what", x.polynomial(1, 0, -1), BAD);
        due("K is 3", row(1, 0, 1).polynomial(2, 0, 0), NO);
    }

    private static void norm() {
        promise = 12;
        SquaredRows x = row(3, 1, 5);
        ratio("0", x.norm(0, 0), x.norm(0, 1), 3, 1);
        ratio("1", x.norm(1, 0), x.norm(1, 1), 14, 3);
        due("2", x.norm(2, 0), NO);
        SquaredRows y = row(-2, 1, 3);
        ratio("below above 0", y.norm(1, 0), y.norm(1, 1), 7, 2);
        SquaredRows zero = row(0, 0, 1);
        ratio("0 by 1", zero.norm(0, 0), zero.norm(0, 1), 0, 1);
        due("P1 is not", zero.norm(1, 0), NO);
        due("K is not above 2 n", row(3, 1).norm(1, 0), NO);
        due("3", row(4, 0, 4, 0, 6, 0, 16).norm(3, 0), 7);
        due("3", row(4, 0, 4, 0, 6, 0).norm(3, 0), NO);
        due("n", x.norm(4, 0), BAD);
        due("n", x.norm(-1, 0), BAD);
        due("what", x.norm(0, 2), BAD);
    }

    private static void rule() {
        promise = 13;
        SquaredRows x = row(3, 1, 5, 1, 11, 3);
        ratio("A 0", x.rule(0, 0, 0), x.rule(0, 0, 1), 1, 3);
        // The mean of x P1 P1, with P1 = x - 1/3: 1 - 10/3 + 1/9, by 14/3.
        ratio("A 1", x.rule(0, 1, 0), x.rule(0, 1, 1), -10, 21);
        ratio("B 1", x.rule(1, 1, 0), x.rule(1, 1, 1), 14, 9);
        due("B 0", x.rule(1, 0, 0), BAD);
        due("A 3", x.rule(0, 3, 0), BAD);
        due("B 3", x.rule(1, 3, 0), BAD);
        due("A -1", x.rule(0, -1, 0), BAD);
        due("which", x.rule(2, 1, 0), BAD);
        due("which", x.rule(-1, 1, 0), BAD);
        due("what", x.rule(0, 1, 2), BAD);
        SquaredRows even = row(4, 0, 4, 0, 6, 0);
        ratio("B 2", even.rule(1, 2, 0), even.rule(1, 2, 1), 1, 2);
        ratio("A 2", even.rule(0, 2, 0), even.rule(0, 2, 1), 0, 1);
        due("P of n and 1 is not", row(1, 0, 0, 0).rule(0, 1, 0), NO);
        due("P of n is not", row(0, 1, 0, 0).rule(0, 0, 0), NO);
        due("P of n less 1 is not", row(0, 1, 1, 1, 0, 0).rule(0, 2, 0), NO);
        due("one moment", row(1).rule(0, 0, 0), NO);
    }

    private static void verdicts(String call, SquaredRows x, int... want) {
        for (int what = 0; what <= 3; what++) {
            due(call + " " + what, x.verdict(what), want[what]);
        }
    }

    private static void verdict() {
        promise = 14;
        verdicts("one moment", row(1), 2, 1, NONE, NONE);
        verdicts("all 0", row(0, 0, 0, 0, 0, 0, 0), 1, 0, NONE, NONE);
        verdicts("below 0", row(-1, 0), 0, 0, 0, NONE);
        verdicts("rest of 0", row(0, 0, 0, 2, 0), 0, 0, 1, 3);
        verdicts("rest at the end", row(0, 0, 0, 0, 0, 0, 5), 0, 0, 1, 6);
        verdicts("one place", row(1, 2, 4, 8, 16, 32, 64), 1, 1, NONE, NONE);
        verdicts("rest of 1", row(1, 2, 4, 8, 17), 0, 1, 1, 3);
        verdicts("rest of 1 at 2", row(1, 2, 4, 9, 17), 0, 1, 1, 2);
        verdicts("beyond the rest", row(1, 2, 4, 8), 1, 1, NONE, NONE);
        verdicts("two moments", row(1, 2), 2, 1, NONE, NONE);
        verdicts("three places", row(3, 0, 2, 0, 2, 0, 2), 1, 3, NONE, NONE);
        verdicts("square of 3", row(3, 0, 2, 0, 2, 0, 1), 0, 3, 0, NONE);
        verdicts("four", row(3, 0, 2, 0, 2, 0, 3), 2, 4, NONE, NONE);
        verdicts("six moments", row(3, 0, 2, 0, 2, 0), 2, 3, NONE, NONE);
        verdicts("two places, rest", row(2, 0, 2, 0, 2, 1, 2), 0, 2, 1, 3);
        verdicts("two places, a sixth alone", row(2, 0, 2, 0, 2, 1), 0, 2, 1, 3);
        verdicts("two places, seventh free", row(2, 0, 2, 0, 2, 0, 3), 0, 2, 1, 4);
        verdicts("square of 2", row(2, 0, 2, 0, 1, 9, 9), 0, 2, 0, NONE);
        due("what", row(1).verdict(4), BAD);
        due("what", row(1).verdict(-1), BAD);
    }

    private static void value() {
        promise = 15;
        SquaredRows x = row(3, 1, 5, 1);
        ratio("P0", x.value(0, 5, 3, 0), x.value(0, 5, 3, 1), 1, 1);
        ratio("P1 at 3/9", x.value(1, 3, 9, 0), x.value(1, 3, 9, 1), 0, 1);
        ratio("P1 at -1/2", x.value(1, -1, 2, 0), x.value(1, -1, 2, 1), -5, 6);
        ratio("P2 at 1/2", x.value(2, 1, 2, 0), x.value(2, 1, 2, 1), -39, 28);
        ratio("P2 at 99", x.value(2, 99, 1, 0), x.value(2, 99, 1, 1), 68694, 7);
        ratio("P3 at -99/9", row(4, 0, 4, 0, 6, 0).value(3, -99, 9, 0),
                row(4, 0, 4, 0, 6, 0).value(3, -99, 9, 1), -2629, 2);
        due("P3 is not", x.value(3, 0, 1, 0), NO);
        due("n", x.value(4, 0, 1, 0), BAD);
        due("n", x.value(-1, 0, 1, 0), BAD);
        due("a", x.value(1, 100, 1, 0), BAD);
        due("a", x.value(1, -100, 1, 0), BAD);
        due("b", x.value(1, 0, 0, 0), BAD);
        due("b", x.value(1, 0, 10, 0), BAD);
        due("what", x.value(1, 0, 1, 2), BAD);
    }

    private static void under() {
        promise = 16;
        // P3 of the places -1, 0, 1 is x (x - 1) (x + 1).
        SquaredRows x = row(3, 0, 2, 0, 2, 0);
        int[] wanted = {0, 0, 1, 1, 2, 2, 3};
        for (int i = 0; i < wanted.length; i++) {
            due("halves from -3 on, " + i, x.under(3, i - 3, 2), wanted[i]);
        }
        due("P2", x.under(2, 0, 1), 1);
        due("P1 at its zero", x.under(1, 0, 9), 0);
        due("P1 above", x.under(1, 1, 9), 1);
        due("all", x.under(3, 99, 1), 3);
        due("none", x.under(3, -99, 1), 0);
        due("a norm is 0", row(0, 1, 1, 1).under(2, 0, 1), NO);
        due("a norm is below 0", row(1, 0, -1, 0).under(2, 0, 1), NO);
        due("the first is below 0", row(-1, 0).under(1, 0, 1), NO);
        due("the norm of n is free", row(1, 0, -1).under(1, 1, 1), 1);
        due("P is not", row(1, 1, 1, 1).under(2, 0, 1), NO);
        due("K", row(1, 1, 2).under(2, 0, 1), NO);
        due("n", x.under(0, 0, 1), BAD);
        due("n", x.under(4, 0, 1), BAD);
        due("a", x.under(1, 100, 1), BAD);
        due("a", x.under(1, -100, 1), BAD);
        due("b", x.under(1, 0, 0), BAD);
        due("b", x.under(1, 0, 10), BAD);
    }

    private static void zero() {
        promise = 17;
        SquaredRows x = row(3, 0, 2, 0, 2, 0);
        due("-1", x.zero(3, 0, 9), -9);
        due("0", x.zero(3, 1, 9), 0);
        due("1", x.zero(3, 2, 9), 9);
        // P2 is x squared less 2 by 3: the zeros are 0.8165 from 0.
        due("P2", x.zero(2, 0, 1), -1);
        due("P2", x.zero(2, 1, 1), 0);
        due("P2", x.zero(2, 0, 7), -6);
        due("P2", x.zero(2, 1, 7), 5);
        due("-99 is in", row(1, -99).zero(1, 0, 5), -495);
        due("below -99", row(1, -100).zero(1, 0, 5), NONE);
        due("just below -99", row(5, -496).zero(1, 0, 1), NONE);
        due("99 is out", row(1, 99).zero(1, 0, 5), NONE);
        due("just below 99", row(5, 494).zero(1, 0, 9), 889);
        due("98", row(1, 98).zero(1, 0, 9), 882);
        due("a third", row(3, -1).zero(1, 0, 1), -1);
        due("a third", row(3, -1).zero(1, 0, 3), -1);
        due("a third", row(3, -1).zero(1, 0, 2), -1);
        due("no", row(-1, 0).zero(1, 0, 1), NO);
        due("no", row(1).zero(1, 0, 1), NO);
        due("n", x.zero(0, 0, 1), BAD);
        due("n", x.zero(4, 0, 1), BAD);
        due("i", x.zero(2, 2, 1), BAD);
        due("i", x.zero(2, -1, 1), BAD);
        due("p", x.zero(2, 0, 0), BAD);
        due("p", x.zero(2, 0, 10), BAD);
    }

    private static void weight() {
        promise = 18;
        SquaredRows x = row(1, 2, 3);
        ratio("one place", x.weight(bits(9), 9, 0), x.weight(bits(9), 9, 1), 1, 1);
        int pair = bits(-1, 2);
        ratio("two", x.weight(pair, -1, 0), x.weight(pair, -1, 1), 0, 1);
        ratio("two", x.weight(pair, 2, 0), x.weight(pair, 2, 1), 1, 1);
        int three = bits(-9, 0, 9);
        // 81 (a + c) = 3 and 9 (c - a) = 2.
        ratio("three", x.weight(three, -9, 0), x.weight(three, -9, 1), -5, 54);
        ratio("three", x.weight(three, 0, 0), x.weight(three, 0, 1), 26, 27);
        ratio("three", x.weight(three, 9, 0), x.weight(three, 9, 1), 7, 54);
        due("more than K", x.weight(bits(0, 1, 2, 3), 0, 0), NO);
        SquaredRows seven = row(0, 0, 0, 0, 0, 0, 1);
        int wide = bits(-9, -8, -7, 6, 7, 8, 9);
        ratio("seven", seven.weight(wide, -9, 0), seven.weight(wide, -9, 1),
                1, 2L * 15 * 16 * 17 * 18);
        due("no set", x.weight(0, 0, 0), BAD);
        due("no set", x.weight(-1, 0, 0), BAD);
        due("no set", x.weight(1 << 19, 9, 0), BAD);
        due("no set", x.weight(1 << 19 | bits(0), 0, 0), BAD);
        due("eight", x.weight(255, -9, 0), BAD);
        due("none of it", x.weight(pair, 0, 0), BAD);
        due("none of it", x.weight(pair, 31, 0), BAD);
        due("none of it", x.weight(pair, -10, 0), BAD);
        due("none of it, by 32 more", x.weight(pair, 34, 0), BAD);
        due("what", x.weight(pair, 2, 2), BAD);
    }

    private static void exact() {
        promise = 19;
        SquaredRows x = row(3, 0, 2, 0, 2, 0, 2);
        due("all", x.exact(bits(-1, 0, 1)), 6);
        due("with others", x.exact(bits(-1, 0, 1, 5, 9)), 6);
        due("seven", x.exact(bits(-9, -8, -7, 6, 7, 8, 9)), 6);
        due("one", x.exact(bits(0)), 1);
        due("one aside", x.exact(bits(1)), 0);
        due("two", x.exact(bits(-1, 1)), 1);
        due("three", x.exact(bits(-1, 0, 2)), 2);
        due("to the fourth", row(3, 0, 2, 0, 2, 1, 2).exact(bits(-1, 0, 1)), 4);
        due("a later one is not asked", row(1, 1, 2, 1).exact(bits(1)), 1);
        due("the row ends", row(1, 1).exact(bits(1)), 1);
        due("more than K", row(1, 1).exact(bits(1, 2, 3)), NO);
        due("no set", x.exact(0), BAD);
        due("no set", x.exact(-1), BAD);
        due("no set", x.exact(Integer.MIN_VALUE), BAD);
        due("eight", x.exact(255), BAD);
        due("bit 19", x.exact(1 << 19), BAD);
    }

    private static void fraction() {
        promise = 20;
        SquaredRows x = row(3, 1, 5, 1);
        // n 1: 3 by (x less 1 by 3); n 2: (3 (x + 1/7) + 1) by P2.
        ratio("1 at 2", x.fraction(1, 2, 1, 0), x.fraction(1, 2, 1, 1), 9, 5);
        ratio("1 at 0", x.fraction(1, 0, 4, 0), x.fraction(1, 0, 4, 1), -9, 1);
        ratio("2 at 2", x.fraction(2, 2, 1, 0), x.fraction(2, 2, 1, 1), 26, 9);
        ratio("2 at 1/2", x.fraction(2, 1, 2, 0), x.fraction(2, 1, 2, 1), -82, 39);
        ratio("2 at -20", x.fraction(2, -20, 1, 0), x.fraction(2, -20, 1, 1), -205, 1384);
        SquaredRows even = row(3, 0, 2, 0, 2, 0);
        ratio("3 at 2", even.fraction(3, 2, 1, 0), even.fraction(3, 2, 1, 1), 11, 6);
        due("0 there", even.fraction(3, 1, 1, 0), NO);
        due("0 there", even.fraction(3, -4, 4, 0), NO);
        due("P is not", x.fraction(3, 0, 1, 0), NO);
        due("n", x.fraction(0, 0, 1, 0), BAD);
        due("n", x.fraction(4, 0, 1, 0), BAD);
        due("a", x.fraction(1, 21, 1, 0), BAD);
        due("a", x.fraction(1, -21, 1, 0), BAD);
        due("b", x.fraction(1, 0, 0, 0), BAD);
        due("b", x.fraction(1, 0, 5, 0), BAD);
        due("what", x.fraction(1, 0, 1, 2), BAD);
        SquaredRows nothing = row(0, 1, 0, 0);
        ratio("mean is 0", nothing.fraction(2, 1, 1, 0), nothing.fraction(2, 1, 1, 1), 1, 1);
    }

    private static void step() {
        promise = 21;
        // Moments 1, 1, 2, 6, 24, 120: c of k is 1, 1, 2, 2, 3; a seventh would be above 500.
        SquaredRows x = row(1, 1, 2, 6, 24, 120, 500);
        int[] wanted = {1, 1, 2, 2, 3};
        for (int k = 1; k <= 5; k++) {
            ratio("step " + k, x.step(k, 0), x.step(k, 1), wanted[k - 1], 1);
        }
        // DET of 0, 4 is 144 less 220 times 4; times DET of 1, 2, that is 2; by 4 times 24.
        ratio("step 6", x.step(6, 0), x.step(6, 1), -46, 3);
        for (int k = 1; k <= 6; k++) {
            SquaredRows fits = row(java.util.Arrays.copyOf(new int[] {1, 1, 2, 6, 24, 120, 500},
                    k + 1));
            due("there " + k, fits.step(k, 1), k == 6 ? 3 : 1);
            fits.less();
            due("not there " + k, fits.step(k, 0), NO);
        }
        due("by 0", row(0, 1).step(1, 0), NO);
        due("by 0", row(1, 0, 1).step(2, 0), NO);
        ratio("by less than 0", row(-2, 4).step(1, 0), row(-2, 4).step(1, 1), -2, 1);
        ratio("0", row(-2, 0).step(1, 0), row(-2, 0).step(1, 1), 0, 1);
        due("k", x.step(0, 0), BAD);
        due("k", x.step(7, 0), BAD);
        due("what", x.step(1, 2), BAD);
        due("what", x.step(1, -1), BAD);
    }

    private static void type() {
        promise = 22;
        SquaredRows x = new SquaredRows();
        due("c", x.type(-1), BAD);
        due("c", x.type(128), BAD);
        due("0", x.type(0), 1);
        due("127", x.type(127), 2);
        for (int i = 3; i <= 100; i++) {
            due("type", x.type(' '), i);
        }
        due("full", x.type(' '), FULL);
        due("bad comes first", x.type(200), BAD);
        due("told 2", x.told(2), 1);
        due("told 3", x.told(3), 100);
        due("no state", x.told(5), 0);
    }

    private static void clear() {
        promise = 23;
        SquaredRows x = write(new SquaredRows(), "l;l;");
        due("clear", x.clear(), 4);
        due("clear", x.clear(), 0);
        due("no state", x.told(5), 0);
        due("type", x.type('l'), 1);
    }

    private static void reads() {
        promise = 24;
        SquaredRows x = write(new SquaredRows(), " m 1-2 003 ; p-1 2;v1;s -1;w0;k -500;l ; ");
        due("seven", x.reads(), 7);
        // 1 -2 3; 3 -4 5; 3 -1 0; 3 1 0; 1 0; 1 0 -500; 1 0.
        rowIs("reads", x, 1, 0);
        due("one state", x.told(5), 1);
        due("the text stays", x.told(3), 41);
        due("again", x.reads(), 7);
        due("two states", x.told(5), 2);
        due("back", x.back(), 1);
        due("back", x.back(), 0);
        rowIs("back", x, 1);
        due("many", write(x, "m1 2 3 4 5 6 7;l;l;l;l;l;l;").reads(), 7);
        due("stops", write(x, "k5;l;l;k5;").reads(), -1002);
        rowIs("nothing is done", x, 1);
        due("m above", write(x, "l;m 501;").reads(), -1000);
        due("m above", write(x, "k1;m 501;").reads(), -1001);
        due("m edges", write(x, "m 500 -500;").reads(), 1);
        due("p", write(x, "p 10 1;").reads(), -1000);
        due("p", write(x, "p 1 100;").reads(), -1000);
        due("p would be refused", write(x, "p 1 1;").reads(), -1000);
        due("v", write(x, "v -10;").reads(), -1000);
        due("v would be refused", write(x, "v -1;").reads(), -1000);
        due("s", write(x, "s 10;").reads(), -1000);
        due("w", write(x, "w 10;").reads(), -1000);
        due("w with one", write(x, "l;w 0;").reads(), -1001);
        due("k", write(x, "k 501;").reads(), -1000);
        due("k with seven", write(x, "m 1 2 3 4 5 6 7;k 1;").reads(), -1001);
        due("nothing counts", x.told(0) + x.told(1) + x.told(2), 0);
        due("states", x.told(5), 2);
        rowIs("reads", x, 500, -500);
        StringBuilder longest = new StringBuilder();
        for (int i = 0; i < 25; i++) {
            longest.append("k;l;");
        }
        due("k alone", write(x, longest.toString()).reads(), -11);
        StringBuilder fifty = new StringBuilder();
        for (int i = 0; i < 50; i++) {
            fifty.append("l;");
        }
        due("fifty orders", write(x, fifty.toString()).reads(), -1001);
        StringBuilder most = new StringBuilder();
        for (int i = 0; i < 20; i++) {
            most.append("k1;l;");
        }
        due("forty orders", write(x, most.toString()).reads(), 40);
        rowIs("reads", x, 500, -500);
    }

    private static void faults() {
        List<String> texts = new ArrayList<>();
        List<Integer> places = new ArrayList<>();
        String[] faulty = {
            "", "0", "   ", "3", "l", "1", "l;m", "3", "l; -", "3", ";", "0", " ;", "1",
            "l;;", "2", "1", "0", "-", "0", "ll;", "1", "l-;", "1", "L;", "0", "m;", "1",
            "m 1", "3", "m 1 -", "5", "m -;", "3", "m - 1;", "3", "m --1;", "3", "m 1-;", "4",
            "m 1234;", "5", "m -1234;", "6", "m 1 2 3 4 5 6 7 8;", "16",
            "m 1 2 3 4 5 6 7-8;", "15", "m 1 2 3 4 5 6 7   -8;", "18", "p 1;", "3",
            "p;", "1", "p 1 2 3;", "6", "p 1 2-3;", "5", "p 1 2", "5", "p", "1", "p 1", "3",
            "v;", "1", "v 1 2;", "4", "v 1-2;", "3", "s;", "1", "w;", "1", "k;", "1",
            "k 0000;", "5", "k 5 5;", "4", "k +5;", "2", "k 5,", "3", "km;", "1", "m 1 l;", "4",
            "z;", "0", "l\t;", "1", "l;\n", "2", "l;l", "3", "l; l", "4", "v1;2", "3", "l;-1;", "2",
        };
        for (int i = 0; i < faulty.length; i += 2) {
            texts.add(faulty[i]);
            places.add(Integer.valueOf(faulty[i + 1]));
        }
        for (int i = 0; i < texts.size(); i++) {
            SquaredRows x = write(new SquaredRows(), texts.get(i));
            due("fault of '" + texts.get(i) + "'", x.reads(), -10 - places.get(i));
            due("no state", x.told(5), 0);
            due("nothing counts", x.told(0) + x.told(1) + x.told(2), 0);
        }
        SquaredRows bytes = new SquaredRows();
        bytes.type(0);
        due("byte 0", bytes.reads(), -10);
        due("a fault comes first", write(new SquaredRows(), "k501;l;l;z").reads(), -19);
        due("blanks", write(new SquaredRows(), "  p  -9   -99  ;  ").reads(), 1);
        due("no blanks", write(new SquaredRows(), "p-9-99;p9-99;").reads(), 2);
        due("-0", write(new SquaredRows(), "v-0;s-00;w000;").reads(), -1002);
    }

    private static void back() {
        promise = 25;
        SquaredRows x = new SquaredRows();
        for (int v = 10; v < 18; v++) {
            x.moment(0, v);
        }
        due("six", x.told(5), 6);
        for (int i = 0; i < 6; i++) {
            due("back", x.back(), 5 - i);
            due("row", x.of(0), 16 - i);
        }
        due("none", x.back(), NO);
        due("no", x.told(1), 1);
        rowIs("back", x, 11);
        x.more(5);
        x.weighs(0);
        rowIs("weighed", x, 5);
        due("back", x.back(), 1);
        rowIs("back", x, 11, 5);
        x.stretches(1);
        due("nothing changed, a state", x.told(5), 2);
        due("back", x.back(), 1);
        due("back", x.back(), 0);
        rowIs("back", x, 11);
        SquaredRows y = row(1, 2, 3, 4, 5, 6, 7);
        for (int i = 0; i < 6; i++) {
            y.less();
        }
        for (int i = 2; i <= 7; i++) {
            y.back();
            due("K", y.told(4), i);
        }
        rowIs("all back", y, 1, 2, 3, 4, 5, 6, 7);
    }

    private static void told() {
        promise = 26;
        SquaredRows x = new SquaredRows();
        due("what", x.told(6), BAD);
        due("what", x.told(-1), BAD);
        due("bad", x.told(0), 2);
        x.less();
        due("no", x.told(1), 1);
        for (int i = 0; i < 7; i++) {
            x.more(i);
        }
        due("full", x.told(2), 1);
        x.type('a');
        due("bytes", x.told(3), 1);
        due("K", x.told(4), 7);
        due("states", x.told(5), 6);
        x.norm(9, 0);
        x.fraction(1, 1, 1, 0);
        x.fraction(1, 0, 1, 0);
        due("questions count", x.told(0), 3);
        due("questions count", x.told(1), 2);
        x.digest();
        x.verdict(0);
        x.back();
        due("answers do not", x.told(0) + x.told(1) + x.told(2), 6);
    }

    private static long hash(long... values) {
        long h = 2357;
        for (long v : values) {
            h = 31 * h + v;
        }
        return h;
    }

    private static void digest() {
        promise = 27;
        due("new", new SquaredRows().digest(),
                hash(0, 0, 0, 0, 1, 0, 1, 2, 1, NONE, NONE, 1, 1));
        SquaredRows x = row(3, 1, 5, 1);
        x.told(9);
        x.rule(0, 2, 0);
        x.type('q');
        due("four", x.digest(), hash(1, 1, 0, 1, 4, 4, 3, 1, 5, 1, 2, 2, NONE, NONE,
                1, 3, 14, -1, 3, -12, 7, 1, 7));
        SquaredRows y = row(0, 1, 1, 1);
        due("P1 is not", y.digest(), hash(0, 0, 0, 0, 4, 4, 0, 1, 1, 1, 0, 0, 1, 1,
                1, 0, -1, 0, 1, -1, 1));
        due("asking changes nothing", y.digest(), y.digest());
    }
}
