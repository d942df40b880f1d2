import java.util.Arrays;
import java.util.NoSuchElementException;
import java.util.Random;

/** Random runs of calls, each answer and the state behind it held against PlainModel. */
public final class ModelTest {
    private static final String[] RULES = {"t>3", "t>y", "x", "1", "t+y>9", "n>1", "w>4", "k<3", "(t+n)*2>k+j", "m/10-m/20*2",
        "t=y", "i<j", "-x+1", "t*y/(n-1)", "t>2-x*2", "k<9", "t-4"};
    private static final String[] HOURS = {"m", "m", "m", "y", "f", "a", "t"};
    private static final String SIGNS = "0123456789/>;abcdefghijmtyknwx+-*<=() f~";

    private final Random random;
    private final StartedByAYawn x = new StartedByAYawn();
    private final PlainModel model = new PlainModel();
    private String calls = "";

    private ModelTest(long seed) {
        random = new Random(seed);
    }

    public static void main(String[] args) {
        int runs = args.length > 0 ? Integer.parseInt(args[0]) : 400;
        long seed = args.length > 1 ? Long.parseLong(args[1]) : 1;
        for (int run = 0; run < runs; run++) {
            if (!new ModelTest(seed + run).run()) {
                Due.fault("seed " + (seed + run));
                break;
            }
        }
        Due.end();
    }

    private boolean run() {
        if (random.nextInt(20) > 0) {
            tell(walls(1 + random.nextInt(9)));
            call("wall()", x.wall(), model.wall());
        }
        int most = 40 + random.nextInt(160);
        for (int k = 0; k < most; k++) {
            if (!one(random.nextInt(64))) {
                System.out.println(calls);
                return false;
            }
        }
        return true;
    }

    private int any(int below) {
        return random.nextInt(below);
    }

    /** Mostly a FACE that is there, at times one that is not. */
    private int who() {
        int faces = model.count(0);
        return any(12) == 0 || faces == 0 ? any(12) - 2 : any(faces);
    }

    private int some(int most) {
        return any(15) == 0 ? any(2) == 0 ? -1 - any(2) : most + 1 : any(6) == 0 ? any(2) * most : any(most + 1);
    }

    private boolean call(String call, long got, long want) {
        calls += call + " = " + want + "\n";
        if (got != want) {
            Due.fault(call + " answered " + got + ", by the model " + want);
            return false;
        }
        int[] row = Due.rowOf(x);
        int[] due = new int[model.count(10)];
        for (int i = 0; i < due.length; i++) {
            due[i] = model.row(i);
        }
        if (!Arrays.equals(row, due)) {
            Due.fault(call + " has the ROW " + Arrays.toString(row) + ", by the model " + Arrays.toString(due));
            return false;
        }
        return same(call);
    }

    private boolean call(String call, boolean got, boolean want) {
        return call(call, got ? 1 : 0, want ? 1 : 0);
    }

    private boolean same(String call) {
        for (int what = 0; what <= 12; what++) {
            if (x.count(what) != model.count(what)) {
                Due.fault("behind " + call + ": count(" + what + ") = " + x.count(what) + ", by the model "
                    + model.count(what));
                return false;
            }
        }
        for (int f = 0; f < model.count(0); f++) {
            for (int what = 0; what < 8; what++) {
                if (x.face(f, what) != model.face(f, what)) {
                    Due.fault("behind " + call + ": face(" + f + ", " + what + ") = " + x.face(f, what)
                        + ", by the model " + model.face(f, what));
                    return false;
                }
            }
        }
        return true;
    }

    private void tell(String text) {
        calls += "\"" + text + "\" ";
        Due.text(x, text);
        model.end(0);
        for (int i = 0; i < text.length(); i += 4) {
            int v = 0;
            for (int k = 0; k < 4; k++) {
                v = v << 8 | (i + k < text.length() ? text.charAt(i + k) : 0);
            }
            model.sign(v);
        }
        model.end(text.length());
    }

    private String walls(int lines) {
        StringBuilder all = new StringBuilder();
        for (int i = 0; i < lines; i++) {
            all.append(i > 0 ? ";" : "").append(any(10)).append('/').append(1 + any(any(2) == 0 ? 9 : 3));
            String sees = "";
            for (char c = 'a'; c <= 'i'; c++) {
                sees += any(c < 'a' + lines ? 2 : 9) == 0 ? c : "";
            }
            all.append(sees.isEmpty() ? "" : ">" + sees);
        }
        return all.toString();
    }

    private String expression(int deep) {
        String sum = term(deep) + (any(2) == 0 ? "+-*/".charAt(any(4)) + term(deep) : "");
        return any(2) == 0 ? sum : sum + "<>=".charAt(any(3)) + term(deep);
    }

    private String term(int deep) {
        int kind = any(8);
        if (kind == 0 && deep > 0) {
            return "(" + expression(deep - 1) + ")";
        }
        return kind == 1 ? "-" + term(deep) : kind < 4 ? "" + any(12) : "" + "tyknwmijx".charAt(any(9));
    }

    private String hours(int acts) {
        StringBuilder all = new StringBuilder();
        for (int i = 0; i < acts; i++) {
            String act = HOURS[any(HOURS.length)];
            all.append(i > 0 ? ";" : "").append(act);
            if (act.equals("m")) {
                all.append(any(2) == 0 ? any(10) : any(100));
            } else {
                all.append((char) ('a' + (any(9) == 0 ? any(9) : any(Math.max(1, model.count(0))))));
                all.append(act.equals("t") ? "" + any(10) : "");
            }
        }
        return all.toString();
    }

    private String spoilt(String text) {
        if (any(4) > 0) {
            return text;
        }
        StringBuilder other = new StringBuilder(text);
        int p = any(text.length() + 1);
        char c = any(9) == 0 ? (char) any(256) : SIGNS.charAt(any(SIGNS.length()));
        switch (any(4)) {
            case 0 -> other.insert(p, c);
            case 1 -> other.setLength(p);
            case 2 -> other.append(text).append(text);
            default -> {
                if (p < text.length()) {
                    other.setCharAt(p, c);
                }
            }
        }
        return other.length() > 80 ? other.substring(0, 80) : other.toString();
    }

    private boolean one(int kind) {
        return kind < 20 ? change(kind) : kind < 40 ? ask(kind) : askMore(kind);
    }

    private boolean change(int kind) {
        int f = who();
        int v = any(2);
        int n = some(300);
        switch (kind) {
            case 0:
                if (model.count(0) > 3 && any(3) > 0) {
                    return true;
                }
                tell(spoilt(any(6) == 0 ? "" : walls(1 + any(3))));
                return call("wall()", x.wall(), model.wall());
            case 1:
                tell(spoilt(any(4) == 0 ? "" : "" + any(1000000)));
                return call("wind()", x.wind(), model.wind());
            case 2:
                tell(spoilt(any(6) == 0 ? "" : any(2) == 0 ? RULES[any(RULES.length)] : expression(4)));
                return call("rule()", x.rule(), model.rule());
            case 3:
                return set(f);
            case 4:
                if (any(4) > 0) {
                    return true;
                }
                return sheet(any(9) - 1, some(9), any(2) == 0 ? any(12) : random.nextInt(), any(3) - 1);
            case 5:
                v = any(8) == 0 ? any(1024) - 300 : any(1 << model.count(0));
                return call("judges(" + v + ")", x.judges(v), model.judges(v));
            case 6, 7, 8:
                v = any(15) == 0 ? any(5) - 2 : v;
                return call("yawn(" + f + ", " + v + ")", x.yawn(f, v), model.yawn(f, v));
            case 9:
                return any(2) == 0 || call("away(" + f + ")", x.away(f), model.away(f));
            case 10, 11, 12:
                return call("minute()", x.minute(), model.minute());
            case 13:
                n = any(2) == 0 ? any(12) : n;
                return call("minutes(" + n + ")", x.minutes(n), model.minutes(n));
            case 14, 15:
                tell(spoilt(any(6) == 0 ? "" : hours(1 + any(8))));
                return call("hour()", x.hour(), model.hour());
            case 16, 17:
                return call("undo()", x.undo(), model.undo());
            case 18:
                v = some(1);
                return call("keep(" + v + ")", x.keep(v), model.keep(v));
            default:
                v = some(1);
                return call("again(" + v + ")", x.again(v), model.again(v));
        }
    }

    private boolean set(int f) {
        int what = some(2);
        int v = what == 2 ? some(511) : some(9);
        return call("set(" + f + ", " + what + ", " + v + ")", x.set(f, what, v), model.set(f, what, v));
    }

    private boolean sheet(int kind, int n, int f, int step) {
        return call("sheet(" + kind + ", " + n + ", " + f + ", " + step + ")", x.sheet(kind, n, f, step),
            model.sheet(kind, n, f, step));
    }

    private boolean book() {
        for (int i = -1; i <= model.count(5); i++) {
            for (int what = -1; what <= 5; what++) {
                long got = -99;
                long want = -99;
                try {
                    got = x.book(i, what);
                } catch (NoSuchElementException e) {
                    got = -98;
                }
                try {
                    want = model.book(i, what);
                } catch (NoSuchElementException e) {
                    want = -98;
                }
                if (got != want && !call("book(" + i + ", " + what + ")", got, want)) {
                    return false;
                }
            }
        }
        int i = any(model.count(5) + 2) - 1;
        return call("back(" + i + ")", x.back(i), model.back(i));
    }

    private boolean ask(int kind) {
        int f = who();
        int g = who();
        int v = any(15) == 0 ? any(5) - 2 : any(2);
        int n = any(2) == 0 ? any(40) : some(300);
        switch (kind) {
            case 20, 21:
                return call("catchers(" + f + ", " + v + ")", x.catchers(f, v), model.catchers(f, v));
            case 22, 23:
                return book();
            case 24, 25:
                return call("start()", x.start(), model.start());
            case 26:
                return call("ahead(" + n + ")", x.ahead(n), model.ahead(n));
            case 27:
                return call("watch(" + n + ")", x.watch(n), model.watch(n));
            case 28:
                return call("when(" + f + ")", x.when(f), model.when(f));
            case 29, 30:
                return call("spreads(" + f + ", " + n + ")", x.spreads(f, n), model.spreads(f, n));
            case 31:
                return call("dies(" + f + ")", x.dies(f), model.dies(f));
            case 32:
                return call("everlasting()", x.everlasting(), model.everlasting());
            case 33:
                return any(4) > 0 || call("cuts(" + f + ")", x.cuts(f), model.cuts(f));
            case 34:
                return call("reach(" + f + ")", x.reach(f), model.reach(f));
            case 35, 36, 37:
                return call("path(" + f + ", " + g + ")", x.path(f, g), model.path(f, g));
            case 38:
                return call("enough()", x.enough(), model.enough());
            default:
                return dull();
        }
    }

    private boolean dull() {
        int v = some(9);
        int m = some(299);
        return call("dull(" + v + ", " + m + ")", x.dull(v, m), model.dull(v, m));
    }

    private boolean askMore(int kind) {
        int f = who();
        int n = any(2) == 0 ? any(40) : some(300);
        int c = some(Math.max(1, model.count(7)));
        switch (kind) {
            case 40, 41, 42:
                return call("bluff()", x.bluff(), model.bluff());
            case 43:
                return call("calm(" + f + ", " + n + ")", x.calm(f, n), model.calm(f, n));
            case 44:
                return call("hush(" + n + ")", x.hush(n), model.hush(n));
            case 45, 46:
                return call("gaze(" + f + ", " + n + ")", x.gaze(f, n), model.gaze(f, n));
            case 47, 48:
                n = some(20);
                return call("rests(" + n + ")", x.rests(n), model.rests(n));
            case 49:
                return crew(any(2) == 0 ? any(60) : some(600), some(9), some(99));
            case 50:
                return any(6) > 0 || call("home()", x.home(), model.home());
            case 51, 52:
                return call("cost(" + c + ")", x.cost(c), model.cost(c));
            case 53, 54:
                return call("best(" + c + ")", x.best(c), model.best(c));
            case 55, 56:
                n = any(2) == 0 ? any(12) : some(60);
                return call("seen(" + f + ", " + n + ")", x.seen(f, n), model.seen(f, n));
            case 57, 58:
                return any(2) == 0 || call("forget()", x.forget(), model.forget());
            case 59, 60:
                return call("began()", x.began(), model.began());
            case 61:
                return call("delays(" + f + ")", x.delays(f), model.delays(f));
            case 62:
                return call("fewest()", x.fewest(), model.fewest());
            default:
                return season(any(3) == 0 ? random.nextInt() : any(100), some(20));
        }
    }

    private boolean crew(int ready, int hold, int late) {
        return call("crew(" + ready + ", " + hold + ", " + late + ")", x.crew(ready, hold, late),
            model.crew(ready, hold, late));
    }

    private boolean season(int seed, int n) {
        return call("season(" + seed + ", " + n + ")", x.season(seed, n), model.season(seed, n));
    }
}
