import java.util.Arrays;
import java.util.NoSuchElementException;
import java.util.function.BooleanSupplier;
import java.util.function.IntSupplier;

/** What the tests share: texts told to an object, and a count of the answers that are not as due. */
final class Due {
    private static int wrong;
    /** The sentence whose test runs, told ahead of each fault. */
    private static String sentence = "";

    private Due() {
    }

    /** The test of one sentence alone, which quotes it as it stands in the document. */
    static void says(int promise, String words, Runnable test) {
        Doc.quote(promise, words);
        sentence = (promise == Doc.TERMS ? "Terms" : "Promise " + promise) + " '" + words + "': ";
        try {
            test.run();
        } catch (RuntimeException e) {
            fault("throws " + e);
        }
        sentence = "";
    }

    static void is(String call, long got, long want) {
        if (got != want) {
            fault(call + " answered " + got + ", due is " + want);
        }
    }

    static void is(String call, boolean got, boolean want) {
        is(call, got ? 1 : 0, want ? 1 : 0);
    }

    static void row(String call, StartedByAYawn x, int... want) {
        int[] got = rowOf(x);
        if (!Arrays.equals(got, want)) {
            fault(call + " has the ROW " + Arrays.toString(got) + ", due is " + Arrays.toString(want));
        }
        noSuch(call + ": row(-1)", () -> x.row(-1));
        noSuch(call + ": row(" + want.length + ")", () -> x.row(want.length));
    }

    /** An answer with its ROW. */
    static void told(String call, StartedByAYawn x, int got, int want, int... row) {
        is(call, got, want);
        row(call, x, row);
    }

    static int[] rowOf(StartedByAYawn x) {
        int[] row = new int[x.count(10)];
        for (int i = 0; i < row.length; i++) {
            row[i] = x.row(i);
        }
        return row;
    }

    static void noSuch(String call, Runnable run) {
        try {
            run.run();
        } catch (NoSuchElementException e) {
            return;
        }
        fault(call + " throws nothing, due is NoSuchElementException");
    }

    static void fault(String text) {
        wrong++;
        System.out.println(sentence + text);
    }

    // ---- what stays as it is

    /** All that can be asked of an object without a question about MINUTES to come, but for the ROW. */
    static String stateOf(StartedByAYawn x) {
        StringBuilder all = new StringBuilder();
        for (int what = 0; what < 12; what++) {
            all.append(what == 10 ? "" : x.count(what) + " ");
        }
        for (int f = 0; f < x.count(0); f++) {
            for (int what = 0; what < 8; what++) {
                all.append(x.face(f, what)).append(what < 7 ? "," : " ");
            }
        }
        return all.append(bookOf(x)).toString();
    }

    static String bookOf(StartedByAYawn x) {
        StringBuilder all = new StringBuilder();
        for (int i = 0; i < x.count(5); i++) {
            for (int what = 0; what < 5; what++) {
                all.append(x.book(i, what)).append(what < 4 ? "/" : " ");
            }
        }
        return all.toString();
    }

    /** A call answers so, and nothing but perhaps the ROW changes by it. */
    static void asks(String call, StartedByAYawn x, IntSupplier run, int want) {
        String before = stateOf(x);
        is(call, run.getAsInt(), want);
        String behind = stateOf(x);
        if (!before.equals(behind)) {
            fault(call + " makes " + before + " into " + behind);
        }
    }

    /** A call without an answer: a number below 0 tells why, and nothing changes, nor does the ROW. */
    static void none(String call, StartedByAYawn x, IntSupplier run, int want) {
        int[] before = rowOf(x);
        asks(call, x, run, want);
        row(call, x, before);
    }

    static void refused(String call, StartedByAYawn x, IntSupplier run) {
        none(call, x, run, StartedByAYawn.NONE);
    }

    static void refuses(String call, StartedByAYawn x, BooleanSupplier run) {
        none(call, x, () -> run.getAsBoolean() ? 1 : 0, 0);
    }

    // ---- texts

    /** THE TEXT becomes these signs alone. */
    static StartedByAYawn text(StartedByAYawn x, String signs) {
        x.end(0);
        for (int i = 0; i < signs.length(); i += 4) {
            int v = 0;
            for (int k = 0; k < 4; k++) {
                v = v << 8 | (i + k < signs.length() ? signs.charAt(i + k) : 0);
            }
            x.sign(v);
        }
        x.end(signs.length());
        return x;
    }

    static int wall(StartedByAYawn x, String signs) {
        return text(x, signs).wall();
    }

    static int wind(StartedByAYawn x, String signs) {
        return text(x, signs).wind();
    }

    static int rule(StartedByAYawn x, String signs) {
        return text(x, signs).rule();
    }

    static int hour(StartedByAYawn x, String signs) {
        return text(x, signs).hour();
    }

    static StartedByAYawn lake(String wall) {
        StartedByAYawn x = new StartedByAYawn();
        wall(x, wall);
        return x;
    }

    static StartedByAYawn lake(String wall, String rule) {
        StartedByAYawn x = lake(wall);
        rule(x, rule);
        return x;
    }

    static void end() {
        System.out.println(wrong == 0 ? "all answers are as due" : wrong + " answers are not as due");
        if (wrong != 0) {
            System.exit(1);
        }
    }
}
