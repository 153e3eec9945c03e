import java.util.Arrays;
import java.util.NoSuchElementException;

/** What the tests of the promises share: texts, answers that are due, rows, calls that throw. */
final class Checks {
    /** A call that must throw. */
    interface Call {
        void run();
    }

    private int wrong = 0;
    private int asked = 0;

    static WaterByLetters town(String houses) {
        WaterByLetters w = new WaterByLetters();
        text(w, houses).houses();
        return w;
    }

    static WaterByLetters townWithRule(String houses, String rule) {
        WaterByLetters w = town(houses);
        text(w, rule).rule();
        return w;
    }

    /** THE TEXT is this, as signs put it. */
    static WaterByLetters text(WaterByLetters w, String s) {
        w.end(0);
        for (int i = 0; i < s.length(); i += 4) {
            int v = 0;
            for (int j = i; j < i + 4; j++) {
                v = v << 8 | (j < s.length() ? s.charAt(j) : 0);
            }
            w.sign(v);
        }
        w.end(s.length());
        return w;
    }

    void due(int promise, String what, long got, long want) {
        asked++;
        if (got != want) {
            wrong++;
            System.out.println("promise " + promise + ": " + what + " answered " + got + ", due is " + want);
        }
    }

    void due(int promise, String what, boolean got, boolean want) {
        due(promise, what, got ? 1 : 0, want ? 1 : 0);
    }

    /** The ROW is this and no more. */
    void row(int promise, String what, WaterByLetters w, long... want) {
        asked++;
        long[] got = rowOf(w);
        if (!Arrays.equals(got, want)) {
            wrong++;
            System.out.println("promise " + promise + ": " + what + " has the row " + Arrays.toString(got)
                    + ", due is " + Arrays.toString(want));
        }
    }

    static long[] rowOf(WaterByLetters w) {
        long[] numbers = new long[w.count(10)];
        for (int i = 0; i < numbers.length; i++) {
            numbers[i] = w.row(i);
        }
        return numbers;
    }

    void throwsNoSuch(int promise, String what, Call call) {
        asked++;
        try {
            call.run();
        } catch (NoSuchElementException e) {
            return;
        }
        wrong++;
        System.out.println("promise " + promise + ": " + what + " did not throw");
    }

    /** Ends the test: exit code 1 if an answer was wrong. */
    void close() {
        System.out.println(asked + " answers, " + wrong + " not as due");
        if (wrong != 0) {
            System.exit(1);
        }
    }
}
