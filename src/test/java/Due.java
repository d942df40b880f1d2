import java.util.Arrays;
import java.util.NoSuchElementException;

/** What the tests share: texts told to an object, and a count of the answers that are not as due. */
final class Due {
    private static int wrong;

    private Due() {
    }

    static void is(String call, long got, long want) {
        if (got != want) {
            fault(call + " answered " + got + ", due is " + want);
        }
    }

    static void is(String call, boolean got, boolean want) {
        is(call, got ? 1 : 0, want ? 1 : 0);
    }

    static void row(String call, StartedByAYawn x, int... want) {
        int[] got = rowOf(x);
        if (!Arrays.equals(got, want)) {
            fault(call + " has the ROW " + Arrays.toString(got) + ", due is " + Arrays.toString(want));
        }
        noSuch(call + ": row(-1)", () -> x.row(-1));
        noSuch(call + ": row(" + want.length + ")", () -> x.row(want.length));
    }

    static int[] rowOf(StartedByAYawn x) {
        int[] row = new int[x.count(10)];
        for (int i = 0; i < row.length; i++) {
            row[i] = x.row(i);
        }
        return row;
    }

    static void noSuch(String call, Runnable run) {
        try {
            run.run();
        } catch (NoSuchElementException e) {
            return;
        }
        fault(call + " throws nothing, due is NoSuchElementException");
    }

    static void fault(String text) {
        wrong++;
        System.out.println(text);
    }

    /** THE TEXT becomes these signs alone. */
    static StartedByAYawn text(StartedByAYawn x, String signs) {
        x.end(0);
        for (int i = 0; i < signs.length(); i += 4) {
            int v = 0;
            for (int k = 0; k < 4; k++) {
                v = v << 8 | (i + k < signs.length() ? signs.charAt(i + k) : 0);
            }
            x.sign(v);
        }
        x.end(signs.length());
        return x;
    }

    static int wall(StartedByAYawn x, String signs) {
        return text(x, signs).wall();
    }

    static int wind(StartedByAYawn x, String signs) {
        return text(x, signs).wind();
    }

    static int rule(StartedByAYawn x, String signs) {
        return text(x, signs).rule();
    }

    static int hour(StartedByAYawn x, String signs) {
        return text(x, signs).hour();
    }

    static StartedByAYawn lake(String wall) {
        StartedByAYawn x = new StartedByAYawn();
        wall(x, wall);
        return x;
    }

    static StartedByAYawn lake(String wall, String rule) {
        StartedByAYawn x = lake(wall);
        rule(x, rule);
        return x;
    }

    static void end() {
        System.out.println(wrong == 0 ? "all answers are as due" : wrong + " answers are not as due");
        if (wrong != 0) {
            System.exit(1);
        }
    }
}
