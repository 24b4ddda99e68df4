import java.util.Arrays;

/** The sentences about THE TEXT that name a boundary, each from both sides; type, clear, reads. */
public final class TextTest {
    private static final int BAD = Check.BAD, FULL = Check.FULL;
    private static final String FIGURES = "0123456789";
    private static final String LETTERS = "mpvswkl";
    private static final Check CHECK = new Check();

    public static void main(String[] args) {
        bytesBounds();
        hundredBytes();
        clearing();
        readsAtHundredBytes();
        numbersOfOrders();
        figuresOfNumbers();
        blanksAnywhere();
        blanksNeeded();
        bytesThatCanStand();
        endsTooEarly();
        faultComesFirst();
        stopsAtNumbers();
        stopsAtRows();
        stopsByRowSoFar();
        numberOfTheStop();
        oneStateForAll();
        nothingCounts();
        CHECK.end();
    }

    private static void done(String text, int[] row, int orders, int... rowThen) {
        CHECK.changes("'" + text + "'", Check.text(text, row), x -> x.reads(), orders, rowThen);
    }

    /** Nothing is done and nothing counts; the text stays. */
    private static void fault(String text, int place) {
        CHECK.answers("'" + text + "'", Check.text(text, 3, 4, 5), x -> x.reads(), -10 - place);
    }

    private static void stop(String text, int[] row, int order) {
        CHECK.answers("'" + text + "'", Check.text(text, row), x -> x.reads(), -1000 - order);
    }

    private static int[] row(int... moments) {
        return moments;
    }

    // ---- bytes

    private static void bytesBounds() {
        CHECK.sentence("A byte (0 .. 127) comes behind THE TEXT: how many it has. BAD");
        CHECK.outside("type", Check.row(3, 4), (x, c) -> x.type(c), 0, 127);
        CHECK.refused("type of 256 more", Check.row(3, 4), x -> x.type(256 + ';'), BAD);
        for (int c = 0; c <= 127; c++) {
            SquaredRows x = new SquaredRows();
            CHECK.due("type(" + c + ")", x.type(c), 1);
            CHECK.due("type(" + c + ")", x.type(c), 2);
            CHECK.due("states", x.told(5), 0);
            CHECK.due("bad", x.told(0), 0);
        }
    }

    private static void hundredBytes() {
        CHECK.sentence("THE TEXT (100 bytes at most); FULL: 100");
        SquaredRows x = new SquaredRows();
        for (int i = 1; i <= 100; i++) {
            CHECK.due("type " + i, x.type('l'), i);
            CHECK.due("bytes", x.told(3), i);
        }
        CHECK.due("full", x.told(2), 0);
        String most = "m 1 2;" + " ".repeat(94);
        CHECK.refused("the 101st", Check.text(most, 3, 4), y -> y.type(' '), FULL);
        CHECK.refused("the 101st, of an order", Check.text(most, 3, 4), y -> y.type('l'), FULL);
        CHECK.refused("the 101st, BAD", Check.text(most, 3, 4), y -> y.type(128), BAD);
        SquaredRows last = Check.text(most.substring(0, 99), 3, 4).get();
        CHECK.due("the 100th", last.type('l'), 100);
        CHECK.due("it stands there", last.reads(), -110);
    }

    private static void clearing() {
        CHECK.sentence("THE TEXT is empty: how many it had");
        CHECK.due("nothing", new SquaredRows().clear(), 0);
        SquaredRows x = Check.text(" ".repeat(100), 3, 4).get();
        CHECK.due("all", x.clear(), 100);
        CHECK.due("nothing", x.clear(), 0);
        CHECK.due("bytes", x.told(3), 0);
        CHECK.due("an empty one", x.reads(), -10);
        CHECK.due("type", x.type('k'), 1);
        CHECK.due("type", x.type('6'), 2);
        CHECK.due("type", x.type(';'), 3);
        CHECK.due("what was there is gone", x.reads(), 1);
        CHECK.due("m2", x.of(2), 6);
        SquaredRows y = Check.row(3, 4).get();
        int states = y.told(5);
        y.clear();
        CHECK.due("K", y.told(4), 2);
        CHECK.due("states", y.told(5), states);
        CHECK.due("refused", y.told(0) + y.told(1) + y.told(2), 0);
    }

    private static void readsAtHundredBytes() {
        CHECK.sentence("ORDERS of 100 bytes");
        done("k1;l;".repeat(20), row(3, 4), 40, 3, 4);
        done(" ".repeat(98) + "l;", row(3, 4), 1, 3);
        stop("l;".repeat(50), row(1, 2, 3, 4, 5, 6, 7), 6);
        done("v 0;".repeat(25), row(3, 4), 25, 3, 4);
        done("v0;".repeat(33) + " ", row(3, 4), 33, 3, 4);
        fault("v0;".repeat(33) + "l", 100);
        fault("v0;".repeat(33) + ";", 99);
        fault(" ".repeat(99) + "l", 100);
        done("m 1 1 1 1 1 1 1;".repeat(6) + "v 1;", row(3), 7, 1, 2, 4, 8, 16, 32, 64);
    }

    // ---- the form of orders

    private static void numbersOfOrders() {
        CHECK.sentence("m and 1 to 7 numbers (an 8th number of m at its first byte)");
        fault("m;", 1);
        fault("m  ;", 3);
        done("m 8;", row(3, 4, 5), 1, 8);
        done("m-8;", row(3, 4, 5), 1, -8);
        done("m 1 2 3 4 5 6;", row(3, 4, 5), 1, 1, 2, 3, 4, 5, 6);
        done("m 1 2 3 4 5 6 7;", row(3, 4, 5), 1, 1, 2, 3, 4, 5, 6, 7);
        fault("m 1 2 3 4 5 6 7 8;", 16);
        fault("m 1 2 3 4 5 6 7  -8;", 17);
        fault("m 1 2 3 4 5 6 7-8;", 15);
        fault("m 1 2 3 4 5 6 7 8 9;", 16);
        CHECK.sentence("p x w");
        fault("p;", 1);
        fault("p 1;", 3);
        fault("p 1 ;", 4);
        done("p 2 1;", row(3, 4, 5), 1, 4, 6, 9);
        done("p-2-1;", row(3, 4, 5), 1, 2, 6, 1);
        fault("p 2 1 3;", 6);
        fault("p 2 1-3;", 5);
        CHECK.sentence("v c; s c; w c; k v");
        for (String letter : new String[] {"v", "s", "w", "k"}) {
            fault(letter + ";", 1);
            fault(letter + " ;", 2);
            fault(letter + " 1 2;", 4);
            fault(letter + " 1-2;", 3);
            fault(letter + "-1 -2;", 4);
        }
        done("v 1;", row(3, 4, 5), 1, 3, 7, 16);
        done("s 2;", row(3, 4, 5), 1, 3, 8, 20);
        done("w 2;", row(3, 4, 5), 1, -2, -3);
        done("k 2;", row(3, 4, 5), 1, 3, 4, 5, 2);
        CHECK.sentence("l");
        done("l;", row(3, 4, 5), 1, 3, 4);
        fault("l1;", 1);
        fault("l -1;", 2);
        CHECK.sentence("THE ROW is these alone");
        done("m 9;", row(1, 2, 3, 4, 5, 6, 7), 1, 9);
        done("m 9 8;k7;", row(1, 2, 3, 4, 5, 6, 7), 2, 9, 8, 7);
    }

    private static void figuresOfNumbers() {
        CHECK.sentence("Numbers have 1 to 3 figures, perhaps - ahead (a fourth figure)");
        done("m 7;", row(3, 4), 1, 7);
        done("m 17;", row(3, 4), 1, 17);
        done("m 417;", row(3, 4), 1, 417);
        fault("m 4170;", 5);
        fault("m 0000;", 5);
        fault("m 0004;", 5);
        done("m -7;", row(3, 4), 1, -7);
        done("m -17;", row(3, 4), 1, -17);
        done("m -417;", row(3, 4), 1, -417);
        fault("m -4170;", 6);
        fault("m -;", 3);
        fault("m --1;", 3);
        fault("m +1;", 2);
        done("m 007 000 -000 -07;", row(3, 4), 1, 7, 0, 0, -7);
        done("p 009 -099;", row(3), 1, -96);
        fault("p 0009 1;", 5);
        fault("p 9 0001;", 7);
        for (String letter : new String[] {"v", "s", "w", "k"}) {
            fault(letter + "0001;", 4);
            fault(letter + "-0001;", 5);
        }
        done("v-001;s 001;w000;k-000;", row(3, 4, 5), 4, 1, 0, 0);
    }

    private static void blanksAnywhere() {
        CHECK.sentence("blanks (32) may stand anywhere but within a number (none behind a -)");
        String[] parts = {"m", "-12", " ", "3", ";", "p", "1", "-2", ";", "v", "-0", ";", "s", "1",
            ";", "w", "0", ";", "k", "-7", ";", "l", ";"};
        done(String.join("", parts), row(3, 4, 5), 7, 1);
        for (int gap = 0; gap <= parts.length; gap++) {
            String ahead = String.join("", Arrays.copyOf(parts, gap));
            String behind = String.join("", Arrays.copyOfRange(parts, gap, parts.length));
            done(ahead + " " + behind, row(3, 4, 5), 7, 1);
            done(ahead + "    " + behind, row(3, 4, 5), 7, 1);
        }
        fault("m- 12;", 2);
        fault("m 1 - 2;", 5);
        fault("k - 1;", 3);
        fault("k 1 2;", 4);
        fault("k 12 3;", 5);
        fault("k -1 2;", 5);
        done("m 1 2;", row(3), 1, 1, 2);
        done("m -1 2;", row(3), 1, -1, 2);
    }

    private static void blanksNeeded() {
        CHECK.sentence("needed only where figures of two numbers would else stand side by side");
        done("m12;", row(3), 1, 12);
        done("m1 2;", row(3), 1, 1, 2);
        done("m1-2;", row(3), 1, 1, -2);
        done("m-1-2-3-4-5-6-7;", row(3), 1, -1, -2, -3, -4, -5, -6, -7);
        done("m123-123 123;", row(3), 1, 123, -123, 123);
        fault("p12;", 3);
        done("p1 2;", row(3), 1, 5);
        done("p1-2;", row(3), 1, 1);
        done("p-1-2;l;", row(3, 4), 2, 1);
        done("l;l;l;", row(3, 4, 5, 6), 3, 3);
    }

    // ---- faults

    /** The texts so far, the bytes that can stand behind, what is answered where an order ends. */
    private static final String[][] AHEAD = {
        {"", " " + LETTERS, ""},
        {"  ", " " + LETTERS, ""},
        {"l;", " " + LETTERS, "1"},
        {"l; ", " " + LETTERS, "1"},
        {"l", " ;", "1"},
        {"l ", " ;", "1"},
        {"m", " -" + FIGURES, ""},
        {"m ", " -" + FIGURES, ""},
        {"m-", FIGURES, ""},
        {"m1", " -;" + FIGURES, "1"},
        {"m12", " -;" + FIGURES, "1"},
        {"m123", " -;", "1"},
        {"m-1", " -;" + FIGURES, "1"},
        {"m-12", " -;" + FIGURES, "1"},
        {"m-123", " -;", "1"},
        {"m1 ", " -;" + FIGURES, "1"},
        {"m1-", FIGURES, ""},
        {"m1 2 3 4 5 6", " -;" + FIGURES, "1"},
        {"m1 2 3 4 5 6 ", " -;" + FIGURES, "1"},
        {"m1 2 3 4 5 6-", FIGURES, ""},
        {"m1 2 3 4 5 6 7", " ;" + FIGURES, "1"},
        {"m1 2 3 4 5 6-71", " ;" + FIGURES, "1"},
        {"m1 2 3 4 5 6 123", " ;", "1"},
        {"m1 2 3 4 5 6 7 ", " ;", "1"},
        {"p", " -" + FIGURES, ""},
        {"p-", FIGURES, ""},
        {"p1", " -" + FIGURES, ""},
        {"p1 ", " -" + FIGURES, ""},
        {"p123", " -", ""},
        {"p1 -", FIGURES, ""},
        {"p1 2", " ;" + FIGURES, "1"},
        {"p1-2 ", " ;", "1"},
        {"p1 002", " ;", "1"},
        {"v", " -" + FIGURES, ""},
        {"v-", FIGURES, ""},
        {"v1", " ;" + FIGURES, "1"},
        {"v001", " ;", "1"},
        {"v1 ", " ;", "1"},
        {"s", " -" + FIGURES, ""},
        {"s1", " ;" + FIGURES, "1"},
        {"s001", " ;", "1"},
        {"s1 ", " ;", "1"},
        {"w", " -" + FIGURES, ""},
        {"w1", " ;" + FIGURES, "1"},
        {"w-01 ", " ;", "1"},
        {"k", " -" + FIGURES, ""},
        {"k12", " ;" + FIGURES, "1"},
        {"k999", " ;", "-1000"},
        {"k1 ", " ;", "1"},
        {"l;k", " -" + FIGURES, ""},
        {"l;k1", " ;" + FIGURES, "2"},
        {"l;k1;l;l;l", " ;", "-1004"},
    };

    private static void bytesThatCanStand() {
        CHECK.sentence("FAULT: the place of the first byte that can not stand there");
        for (String[] ahead : AHEAD) {
            String text = ahead[0];
            for (char c = 0; c <= 127; c++) {
                SquaredRows x = Check.text(text + c, 3, 4, 5).get();
                String call = "'" + text + "' and byte " + (int) c;
                boolean ended = c == ';' || (c == ' ' && text.trim().endsWith(";"));
                if (ahead[1].indexOf(c) < 0) {
                    CHECK.due(call, x.reads(), -10 - text.length());
                    CHECK.due(call + ", K", x.told(4), 3);
                } else if (ended) {
                    CHECK.due(call, x.reads(), Integer.parseInt(ahead[2]));
                } else {
                    CHECK.due(call, x.reads(), -10 - text.length() - 1);
                    CHECK.due(call + ", K", x.told(4), 3);
                }
                CHECK.due(call + ", refused", x.told(0) + x.told(1) + x.told(2), 0);
            }
        }
    }

    private static void endsTooEarly() {
        CHECK.sentence("the TEXT's length, if it ends too early (an empty one, blanks alone, too)");
        fault("", 0);
        fault(" ", 1);
        fault(" ".repeat(99), 99);
        fault(" ".repeat(100), 100);
        String whole = " m -12 345 ; p 1 -2 ;v-1; l ;  ";
        int orders = 0;
        int[][] rows = {{}, {-12, 345}, {-14, 343}, {-14, 357}, {-14}};
        for (int length = 1; length <= whole.length(); length++) {
            String text = whole.substring(0, length);
            orders += text.endsWith(";") ? 1 : 0;
            if (orders > 0 && text.trim().endsWith(";")) {
                done(text, row(3, 4, 5), orders, rows[orders]);
            } else {
                fault(text, length);
            }
        }
    }

    private static void faultComesFirst() {
        CHECK.sentence("If there is one (a FAULT), nothing is done");
        fault("l;l;x", 4);
        fault("k 1;k 2;k", 9);
        fault("m 1;m 2;m;", 9);
        CHECK.sentence("a FAULT behind an ORDER that would stop all");
        fault("k 501;x", 6);
        fault("l;l;l;l", 7);
        fault("v 10;s 10;w 10;;", 15);
        fault("m 999;m", 7);
    }

    // ---- stops

    private static void stopsAtNumbers() {
        CHECK.sentence("An ORDER that its call would refuse (m: above 500, below -500) stops all");
        done("m 500 -500;", row(3, 4), 1, 500, -500);
        for (int v : new int[] {501, -501, 999, -999}) {
            stop("m " + v + ";", row(3, 4), 0);
            stop("m 1 " + v + " 2;", row(3, 4), 0);
            stop("m 1 2 3 4 5 6 " + v + ";", row(3, 4), 0);
            stop("k " + v + ";", row(3, 4), 0);
        }
        done("k 500;k-500;", row(3, 4), 2, 3, 4, 500, -500);
        done("p 9 1;p -9 1;", row(0, 0), 2, 2, 0);
        stop("p 10 1;", row(0, 0), 0);
        stop("p -10 1;", row(0, 0), 0);
        stop("p 10 0;", row(0, 0), 0);
        done("p 0 99;", row(0, 0), 1, 99, 0);
        done("p 0 -99;", row(0, 0), 1, -99, 0);
        stop("p 0 100;", row(0, 0), 0);
        stop("p 0 -100;", row(0, 0), 0);
        done("v 9;v-9;", row(3, 4), 2, 3, 4);
        stop("v 10;", row(3), 0);
        stop("v -10;", row(3), 0);
        done("s 9;", row(3, 4), 1, 3, 36);
        done("s -9;", row(3, 4), 1, 3, -36);
        stop("s 10;", row(3), 0);
        stop("s -10;", row(3), 0);
        done("w 9;", row(3, 4), 1, -23);
        done("w -9;", row(3, 4), 1, 31);
        stop("w 10;", row(0, 4), 0);
        stop("w -10;", row(0, 4), 0);
    }

    private static void stopsAtRows() {
        CHECK.sentence("An ORDER that its call would refuse stops all: nothing is done");
        done("p 5 99;", row(401), 1, 500);
        stop("p 5 99;", row(402), 0);
        done("p 5 -99;", row(-401), 1, -500);
        stop("p 5 -99;", row(-402), 0);
        done("v 9;", row(10, 410), 1, 10, 500);
        stop("v 9;", row(10, 411), 0);
        done("s -5;", row(1, 100), 1, 1, -500);
        stop("s -3;", row(1, 167), 0);
        done("w -9;", row(50, 50), 1, 500);
        stop("w -9;", row(50, 51), 0);
        done("w 0;", row(3, 4), 1, 4);
        stop("w 0;", row(3), 0);
        done("k 7;", row(1, 2, 3, 4, 5, 6), 1, 1, 2, 3, 4, 5, 6, 7);
        stop("k 7;", row(1, 2, 3, 4, 5, 6, 7), 0);
        done("l;", row(3, 4), 1, 3);
        stop("l;", row(3), 0);
    }

    private static void stopsByRowSoFar() {
        CHECK.sentence("each ORDER is done upon what those ahead of it have made");
        done("k 5;l;", row(3), 2, 3);
        stop("k 5;l;l;", row(3), 2);
        stop("m 1;l;", row(3, 4, 5), 1);
        done("m 1 2;l;", row(3), 2, 1);
        stop("m 1 2 3 4 5 6 7;k 1;", row(3), 1);
        done("l;k 1;", row(1, 2, 3, 4, 5, 6, 7), 2, 1, 2, 3, 4, 5, 6, 1);
        done("w 0;", row(3, 4), 1, 4);
        stop("w 0;w 0;", row(3, 4), 1);
        stop("s 4;s 0;", row(1, 126), 0);
        done("s 0;s 4;", row(1, 126), 2, 1, 0);
        stop("p 0 1;p 0 -1;", row(500), 0);
        done("p 0 -1;p 0 1;", row(500), 2, 500);
    }

    private static void numberOfTheStop() {
        CHECK.sentence("-1000 less the number (0 on) of the ORDER that stops all");
        for (int ahead = 0; ahead <= 32; ahead++) {
            stop("v0;".repeat(ahead) + "l;", row(3), ahead);
        }
        stop("l;l;l;l;l;l;l;", row(1, 2, 3, 4, 5, 6, 7), 6);
        stop("l;k 501;s 10;", row(3, 4), 1);
        CHECK.sentence("ORDERS are done: how many");
        for (int orders = 1; orders <= 33; orders++) {
            done("v0;".repeat(orders), row(3), orders, 3);
        }
    }

    private static void oneStateForAll() {
        CHECK.sentence("S (one STATE for all); THE TEXT stays");
        done("k1;k2;k3;k4;k5;l;l;", row(3), 7, 3, 1, 2, 3);
        SquaredRows x = Check.text("k1;", 3).get();
        int states = x.told(5);
        for (int time = 1; time <= 6; time++) {
            CHECK.due("again", x.reads(), 1);
            CHECK.due("K", x.told(4), time + 1);
            CHECK.due("states", x.told(5), Math.min(6, states + time));
            CHECK.due("bytes", x.told(3), 3);
        }
        CHECK.due("at seven", x.reads(), -1000);
        CHECK.due("states", x.told(5), 6);
        CHECK.due("K", x.told(4), 7);
        CHECK.due("a text more", x.type('x'), 4);
        CHECK.due("its fault", x.reads(), -13);
        SquaredRows much = Check.text("m 1 2 3 4 5 6 7;".repeat(6) + "l;l;", 3).get();
        for (int time = 1; time <= 30; time++) {
            CHECK.due("much", much.reads(), 8);
            CHECK.due("K", much.told(4), 5);
            CHECK.due("m4", much.of(4), 5);
        }
    }

    private static void nothingCounts() {
        CHECK.sentence("By THE TEXT nothing counts");
        String[] texts = {"", "x", "l;l;l;", "k 501;", "m 501;", "p 10 1;", "v 10;", "s 10;",
            "w 10;", "p 0 1;", "k1;k1;k1;k1;k1;k1;k1;", "m1;w0;"};
        for (String text : texts) {
            SquaredRows x = Check.text(text, 500, 4).get();
            int states = x.told(5);
            CHECK.due("'" + text + "' is not done", x.reads() < 0 ? 1 : 0, 1);
            for (int what = 0; what <= 2; what++) {
                CHECK.due("'" + text + "', told(" + what + ")", x.told(what), 0);
            }
            CHECK.due("'" + text + "', states", x.told(5), states);
            CHECK.due("'" + text + "', K", x.told(4), 2);
            CHECK.due("'" + text + "', m0", x.of(0), 500);
            CHECK.due("'" + text + "', bytes", x.told(3), text.length());
        }
    }
}
