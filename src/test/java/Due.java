import java.util.Arrays;
import java.util.NoSuchElementException;

/** Counts and prints answers that are not as due; a cave beside it takes texts in one piece. */
final class Due {
    /** A call that is due to throw. */
    interface Call {
        long answer();
    }

    private int wrong;
    private int asked;

    void is(String what, long got, long want) {
        asked++;
        if (got != want) {
            wrong++;
            System.out.println(what + " answered " + got + ", due is " + want);
        }
    }

    void holds(String what, boolean got) {
        is(what, got ? 1 : 0, 1);
    }

    /** The whole ROW: how many numbers, each of them, and none behind them. */
    void row(String what, CaveAdvice x, long... want) {
        long[] got = new long[Math.max(0, x.count(9))];
        for (int i = 0; i < got.length; i++) {
            got[i] = x.row(i);
        }
        asked++;
        if (!Arrays.equals(got, want)) {
            wrong++;
            System.out.println(what + ": the ROW is " + Arrays.toString(got) + ", due is " + Arrays.toString(want));
        }
        isThrown(what + ": a number behind the ROW", () -> x.row(got.length));
        isThrown(what + ": a number ahead of the ROW", () -> x.row(-1));
    }

    void isThrown(String what, Call call) {
        asked++;
        try {
            long got = call.answer();
            wrong++;
            System.out.println(what + " answered " + got + ", due is a NoSuchElementException");
        } catch (NoSuchElementException e) {
            // as due
        }
    }

    /** Ends the test with exit code 1 if an answer was wrong. */
    void close() {
        System.out.println(asked + " asked, " + wrong + " wrong");
        if (wrong != 0) {
            System.exit(1);
        }
    }

    /** THE TEXT is this one then. */
    static CaveAdvice text(CaveAdvice x, String text) {
        x.end(0);
        for (int i = 0; i < text.length(); i += 4) {
            int v = 0;
            for (int j = i; j < i + 4; j++) {
                v = v << 8 | (j < text.length() ? text.charAt(j) : 0);
            }
            x.sign(v);
        }
        x.end(text.length());
        return x;
    }

    /** A new cave with these passages. */
    static CaveAdvice cave(String lines) {
        CaveAdvice x = new CaveAdvice();
        text(x, lines).passages();
        return x;
    }

    static CaveAdvice withRule(CaveAdvice x, String rule) {
        text(x, rule).rule();
        return x;
    }
}
