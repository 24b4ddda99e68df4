import java.util.function.Supplier;

/**
 * What the tests of the boundaries share. A call is judged with all that it leaves behind: two
 * objects are made alike, one of them is called, and both are compared in all that can be asked.
 */
final class Check {
    static final int NONE = -1000000, BAD = -1000001, NO = -1000002, FULL = -1000003;

    /** One call of a public method. */
    interface Call {
        long on(SquaredRows x);
    }

    /** One call whose one number is of interest. */
    interface NumberCall {
        long on(SquaredRows x, int v);
    }

    private String sentence = "";
    private int asked;
    private int wrong;

    /** Names the document's words that the next tests are about. */
    void sentence(String words) {
        sentence = words;
    }

    void due(String what, long got, long want) {
        asked++;
        if (got != want) {
            wrong++;
            System.out.println("[" + sentence + "] " + what + ": answered " + got + ", due is "
                    + want);
        }
    }

    void end() {
        System.out.println(asked + " answers, " + wrong + " not as due");
        if (wrong != 0) {
            System.exit(1);
        }
    }

    // ---- objects

    /** Objects with this row, two states ahead of it, and the text that told it. */
    static Supplier<SquaredRows> row(int... moments) {
        return () -> {
            SquaredRows x = new SquaredRows();
            x.more(9);
            StringBuilder order = new StringBuilder("m");
            for (int v : moments) {
                order.append(' ').append(v);
            }
            write(x, order.append(';').toString());
            x.reads();
            return x;
        };
    }

    /** Objects with this row, and this text not read yet. */
    static Supplier<SquaredRows> text(String text, int... moments) {
        return () -> write(row(moments).get(), text);
    }

    static SquaredRows write(SquaredRows x, String text) {
        x.clear();
        for (int i = 0; i < text.length(); i++) {
            x.type(text.charAt(i));
        }
        return x;
    }

    static int bits(int... places) {
        int set = 0;
        for (int place : places) {
            set |= 1 << (place + 9);
        }
        return set;
    }

    // ---- what a call answers and what it leaves behind

    /** The call is refused: it is counted once, as what it is, and nothing else changes. */
    void refused(String what, Supplier<SquaredRows> made, Call call, int code) {
        SquaredRows called = made.get();
        SquaredRows kept = made.get();
        due(what, call.on(called), code);
        int[] codes = {BAD, NO, FULL};
        for (int i = 0; i < codes.length; i++) {
            due(what + ", then told(" + i + ")", called.told(i),
                    kept.told(i) + (codes[i] == code ? 1 : 0));
        }
        sameBehind(what, called, kept);
    }

    /** The call answers, the same if it is asked again, is not counted, and changes nothing. */
    void answers(String what, Supplier<SquaredRows> made, Call call, long want) {
        SquaredRows called = made.get();
        SquaredRows kept = made.get();
        due(what, call.on(called), want);
        due(what + ", again", call.on(called), want);
        due(what + ", then digest()", called.digest(), kept.digest());
        sameBehind(what, called, kept);
    }

    /** A fraction is told, above and below. */
    void ratio(String what, Supplier<SquaredRows> made, NumberCall part, long above, long below) {
        answers(what + " above", made, x -> part.on(x, 0), above);
        answers(what + " below", made, x -> part.on(x, 1), below);
    }

    /** The call answers, makes the row this one, and leaves a state to go back to. */
    void changes(String what, Supplier<SquaredRows> made, Call call, long want, int... rowThen) {
        SquaredRows called = made.get();
        SquaredRows kept = made.get();
        due(what, call.on(called), want);
        for (int i = 0; i <= 3; i++) {
            due(what + ", then told(" + i + ")", called.told(i), kept.told(i));
        }
        due(what + ", then K", called.told(4), rowThen.length);
        for (int j = 0; j < rowThen.length; j++) {
            due(what + ", then of(" + j + ")", called.of(j), rowThen[j]);
        }
        int states = Math.min(6, kept.told(5) + 1);
        due(what + ", then told(5)", called.told(5), states);
        due(what + ", then back()", called.back(), states - 1);
        sameBehind(what + ", then back(),", called, kept);
    }

    /** What came ahead of the call makes no difference to it. */
    void sameAfter(String what, Supplier<SquaredRows> made, Call ahead, Call call) {
        SquaredRows called = made.get();
        SquaredRows kept = made.get();
        ahead.on(called);
        due(what, call.on(called), call.on(kept));
        sameBehind(what, called, kept);
    }

    /** Just outside and far outside it is BAD; at the two ends the answers are these. */
    void bounds(String what, Supplier<SquaredRows> made, NumberCall call, int[] ends,
            long[] wants) {
        outside(what, made, call, ends[0], ends[1]);
        for (int i = 0; i < ends.length; i++) {
            int v = ends[i];
            answers(what + " with " + v, made, x -> call.on(x, v), wants[i]);
        }
    }

    /** Just outside and far outside it is BAD. */
    void outside(String what, Supplier<SquaredRows> made, NumberCall call, int least, int most) {
        int[] out = {least - 1, most + 1, Integer.MIN_VALUE, Integer.MAX_VALUE};
        for (int v : out) {
            refused(what + " with " + v, made, x -> call.on(x, v), BAD);
        }
    }

    /** The rows, the states and the texts are the same ones. */
    private void sameBehind(String what, SquaredRows called, SquaredRows kept) {
        sameRow(what, called, kept);
        due(what + ", then told(3)", called.told(3), kept.told(3));
        due(what + ", then told(5)", called.told(5), kept.told(5));
        for (int state = kept.told(5); state > 0; state--) {
            due(what + ", then back()", called.back(), kept.back());
            sameRow(what + ", then back()", called, kept);
        }
        due(what + ", then reads()", called.reads(), kept.reads());
        sameRow(what + ", then reads()", called, kept);
    }

    private void sameRow(String what, SquaredRows called, SquaredRows kept) {
        due(what + ", then K", called.told(4), kept.told(4));
        for (int j = 0; j < kept.told(4); j++) {
            due(what + ", then of(" + j + ")", called.of(j), kept.of(j));
        }
    }
}
