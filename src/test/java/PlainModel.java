import java.util.ArrayList;
import java.util.List;
import java.util.NoSuchElementException;
import java.util.Set;
import java.util.TreeSet;
import java.util.function.Predicate;

/**
 * The document once more, written another way (copies of whole walls, texts taken apart by their
 * signs), so that ModelTest can hold both against each other.
 */
final class PlainModel {
    static final class Face {
        int tired;
        int delay;
        int told;
        boolean away;
        Integer due;
        Integer cause;
        boolean means;
        int often;

        Face copy() {
            Face f = new Face();
            f.tired = tired;
            f.delay = delay;
            f.told = told;
            f.away = away;
            f.due = due;
            f.cause = cause;
            f.means = means;
            f.often = often;
            return f;
        }

        void clear() {
            due = null;
            cause = null;
            means = false;
        }

        boolean free() {
            return !away && due == null;
        }
    }

    record Yawn(int minute, int face, Integer cause, boolean meant) {
    }

    record Crew(int ready, int hold, int late) {
        int price(int start) {
            return start >= ready ? hold * (start - ready) : late * (ready - start);
        }
    }

    record Sighting(int face, int n) {
    }

    record Start(int after, int face, int falseOnes) {
    }

    record Saved(State state, int faces) {
    }

    /** A whole wall; THE RULE and WIND are asked of the model. */
    final class State {
        List<Face> faces = new ArrayList<>();
        int now;
        List<Yawn> book = new ArrayList<>();
        boolean frozen;
        Set<Integer> caught = new TreeSet<>();

        State copy() {
            State s = new State();
            for (Face f : faces) {
                s.faces.add(f.copy());
            }
            s.now = now;
            s.book = new ArrayList<>(book);
            return s;
        }

        boolean sees(int f, int g) {
            return f != g && (faces.get(f).told >> g & 1) == 1;
        }

        void plan(int f, boolean meant) {
            Face face = faces.get(f);
            face.due = now;
            face.cause = null;
            face.means = meant;
        }

        List<Yawn> minute() {
            List<Yawn> yawns = new ArrayList<>();
            for (int i = 0; i < faces.size(); i++) {
                Face f = faces.get(i);
                if (!frozen && f.free() && f.tired == 9) {
                    plan(i, false);
                }
            }
            for (int i = 0; i < faces.size(); i++) {
                Face f = faces.get(i);
                if (!f.away && f.due != null && f.due == now) {
                    yawns.add(new Yawn(now, i, f.cause, f.means));
                    f.often++;
                    if (!frozen) {
                        f.tired = Math.max(0, f.tired - 1);
                    }
                    f.clear();
                }
            }
            caught = new TreeSet<>();
            for (int i = 0; i < faces.size(); i++) {
                Face f = faces.get(i);
                int me = i;
                boolean yawned = yawns.stream().anyMatch(y -> y.face() == me);
                if (f.free() && !yawned) {
                    List<Yawn> seen = yawns.stream().filter(y -> sees(me, y.face())).toList();
                    for (Yawn y : seen) {
                        if (catches(this, i, y.face(), y.meant(), seen.size())) {
                            f.due = now + f.delay;
                            f.cause = y.face();
                            f.means = false;
                            caught.add(i);
                            break;
                        }
                    }
                }
            }
            if (!frozen && (now + 1) % 10 == 0) {
                for (Face f : faces) {
                    f.tired = Math.min(9, f.tired + 1);
                }
            }
            now++;
            book.addAll(yawns);
            while (book.size() > 60) {
                book.remove(0);
            }
            return yawns;
        }

        List<List<Yawn>> minutes(int n) {
            List<List<Yawn>> all = new ArrayList<>();
            for (int m = 0; m < n; m++) {
                all.add(minute());
            }
            return all;
        }

        void tire(int f, int more) {
            Face face = faces.get(f);
            face.tired = Math.max(0, Math.min(9, face.tired + more));
        }

        void flip(int f) {
            faces.get(f).away = !faces.get(f).away;
            faces.get(f).clear();
        }
    }

    private String text = "";
    private State state = new State();
    private String rule = "";
    private String wind = "";
    private int judges;
    private final List<Saved> past = new ArrayList<>();
    private final Saved[] kept = new Saved[2];
    private final List<Crew> crews = new ArrayList<>();
    private final List<Sighting> seen = new ArrayList<>();
    private List<Integer> row = new ArrayList<>();

    // ---- THE RULE: an expression between two signs is taken apart at the sign that binds least

    private boolean catches(State s, int f, int g, boolean meant, int many) {
        String r = rule.isEmpty() ? "t>3" : rule;
        int w = wind.isEmpty() ? 0 : wind.charAt(s.now % wind.length()) - '0';
        Face face = s.faces.get(f);
        int[] things = {face.tired, s.faces.get(g).tired, face.often, many, w, s.now, f, g, meant ? 1 : 0};
        return eval(r, things) != 0;
    }

    static int eval(String r, int[] things) {
        int depth = 0;
        int best = -1;
        int rank = 9;
        for (int p = 0; p < r.length(); p++) {
            char c = r.charAt(p);
            if (c == '(') {
                depth++;
            } else if (c == ')') {
                depth--;
            } else if (depth == 0 && p > 0 && "+-*/<>=(".indexOf(r.charAt(p - 1)) < 0) {
                int here = "<>=".indexOf(c) >= 0 ? 0 : "+-".indexOf(c) >= 0 ? 1 : "*/".indexOf(c) >= 0 ? 2 : 9;
                if (here < 9 && here <= rank) {
                    rank = here;
                    best = p;
                }
            }
        }
        if (best >= 0) {
            int a = eval(r.substring(0, best), things);
            int b = eval(r.substring(best + 1), things);
            return switch (r.charAt(best)) {
                case '<' -> a < b ? 1 : 0;
                case '>' -> a > b ? 1 : 0;
                case '=' -> a == b ? 1 : 0;
                case '+' -> a + b;
                case '-' -> a - b;
                case '*' -> a * b;
                default -> b == 0 ? 0 : a / b;
            };
        }
        if (r.charAt(0) == '-') {
            return -eval(r.substring(1), things);
        }
        if (r.charAt(0) == '(') {
            return eval(r.substring(1, r.length() - 1), things);
        }
        int thing = "tyknwmijx".indexOf(r.charAt(0));
        return thing >= 0 ? things[thing] : Integer.parseInt(r);
    }

    /** The first sign that can't stand there, or the end if it ends too early, or -1. */
    static int faultOfRule(String r) {
        boolean[] compared = new boolean[5];
        int depth = 0;
        int digits = 0;
        boolean wantsThing = true;
        for (int p = 0; p < r.length(); p++) {
            char c = r.charAt(p);
            boolean digit = c >= '0' && c <= '9';
            if (wantsThing) {
                if (c == '(') {
                    if (depth == 4) {
                        return p;
                    }
                    depth++;
                    compared[depth] = false;
                } else if (digit || "tyknwmijx".indexOf(c) >= 0) {
                    digits = digit ? 1 : 0;
                    wantsThing = false;
                } else if (c != '-') {
                    return p;
                }
                continue;
            }
            if (digit && digits > 0 && digits < 3) {
                digits++;
            } else if (c == ')' && depth > 0) {
                depth--;
                digits = 0;
            } else if ("+-*/".indexOf(c) >= 0) {
                wantsThing = true;
            } else if ("<>=".indexOf(c) >= 0 && !compared[depth]) {
                compared[depth] = true;
                wantsThing = true;
            } else {
                return p;
            }
        }
        return wantsThing || depth > 0 ? r.length() : -1;
    }

    /** A text whose parts, between ; signs, are faulty from a sign on: the rest is a length or less. */
    private static int faultOfParts(String t, Predicate<String> whole, Predicate<String> begun, int room) {
        int from = 0;
        for (int part = 0; ; part++) {
            int semi = t.indexOf(';', from);
            int to = semi < 0 ? t.length() : semi;
            if (part == room) {
                return from;
            }
            for (int p = from + 1; p <= to; p++) {
                if (!begun.test(t.substring(from, p))) {
                    return p - 1;
                }
            }
            if (!whole.test(t.substring(from, to))) {
                return to;
            }
            if (semi < 0) {
                return -1;
            }
            from = semi + 1;
        }
    }

    private static boolean rises(String line) {
        for (int p = 5; p < line.length(); p++) {
            if (line.charAt(p) <= line.charAt(p - 1)) {
                return false;
            }
        }
        return true;
    }

    private static boolean line(String s) {
        return s.matches("[0-9]/[1-9](>[a-i]+)?") && rises(s);
    }

    private static boolean lineBegun(String s) {
        return s.matches("[0-9](/([1-9](>[a-i]*)?)?)?") && rises(s);
    }

    private static boolean act(String s) {
        return s.matches("m[0-9]{1,2}|[yfa][a-i]|t[a-i][0-9]");
    }

    private static boolean actBegun(String s) {
        return s.matches("m[0-9]{0,2}|[yfa][a-i]?|t([a-i][0-9]?)?");
    }

    /** -1 - p, or 0 if the text can stand whole. */
    private static int answer(int fault, String t, int most) {
        if (fault >= 0) {
            return -1 - fault;
        }
        return t.length() > most ? -1 - most : 0;
    }

    private static String cut(String t, int most) {
        return t.substring(0, Math.min(t.length(), most));
    }

    // ---- the wall

    int sign(int v) {
        if (text.length() + 4 > 80) {
            return -1;
        }
        for (int k = 3; k >= 0; k--) {
            text += (char) (v >> 8 * k & 255);
        }
        return text.length();
    }

    boolean end(int n) {
        if (n < 0 || n > text.length()) {
            return false;
        }
        text = text.substring(0, n);
        return true;
    }

    int wall() {
        String t = text;
        text = "";
        if (t.isEmpty()) {
            return 0;
        }
        int bad = answer(faultOfParts(cut(t, 76), PlainModel::line, PlainModel::lineBegun, 9 - state.faces.size()), t, 76);
        if (bad < 0) {
            return bad;
        }
        String[] lines = t.split(";");
        for (String line : lines) {
            Face f = new Face();
            f.tired = line.charAt(0) - '0';
            f.delay = line.charAt(2) - '0';
            for (int p = 4; p < line.length(); p++) {
                f.told |= 1 << line.charAt(p) - 'a';
            }
            state.faces.add(f);
        }
        past.clear();
        return lines.length;
    }

    int wind() {
        String t = text;
        text = "";
        String first = cut(t, 40);
        for (int p = 0; p < first.length(); p++) {
            if (first.charAt(p) < '0' || first.charAt(p) > '9') {
                return -1 - p;
            }
        }
        if (t.length() > 40) {
            return -41;
        }
        wind = t;
        return t.length();
    }

    int rule() {
        String t = text;
        text = "";
        int bad = t.isEmpty() ? 0 : answer(faultOfRule(cut(t, 40)), t, 40);
        if (bad == 0) {
            rule = t;
        }
        return bad;
    }

    private boolean there(int f) {
        return f >= 0 && f < state.faces.size();
    }

    private Face at(int f) {
        return state.faces.get(f);
    }

    private boolean free(int f) {
        return there(f) && at(f).free();
    }

    private static int or(Integer v) {
        return v == null ? -1 : v;
    }

    int face(int f, int what) {
        if (!there(f) || what < 0 || what > 7) {
            throw new NoSuchElementException();
        }
        Face x = at(f);
        int sees = 0;
        for (int g = 0; g < state.faces.size(); g++) {
            sees |= state.sees(f, g) ? 1 << g : 0;
        }
        int[] tells = {x.tired, x.delay, sees, x.often, x.due == null ? -1 : x.due - state.now, or(x.cause),
            x.means ? 1 : 0, x.away ? 1 : 0};
        return tells[what];
    }

    int set(int f, int what, int v) {
        if (!there(f) || what < 0 || what > 2 || v < (what == 1 ? 1 : 0) || v > (what == 2 ? 511 : 9)) {
            return -1;
        }
        Face x = at(f);
        int old = what == 0 ? x.tired : what == 1 ? x.delay : x.told;
        if (what == 0) {
            x.tired = v;
        } else if (what == 1) {
            x.delay = v;
        } else {
            x.told = v;
        }
        return old;
    }

    int sheet(int kind, int n, int f, int step) {
        if (kind < 0 || kind > 3 || n > 9) {
            return -1;
        }
        if (kind < 3 && n < 0) {
            return -2;
        }
        int sum = 0;
        for (int i = 0; i < state.faces.size(); i++) {
            long v = 0;
            if (kind < 3 && i < n) {
                int entry = f + i * step;
                v = kind == 0 ? (byte) entry : kind == 1 ? (short) entry : entry;
            }
            at(i).tired = (int) Math.max(0, Math.min(9, v));
            sum += at(i).tired;
        }
        return kind == 3 ? -3 : sum;
    }

    private boolean judged(int f) {
        for (int j = 0; j < state.faces.size(); j++) {
            if ((judges >> j & 1) == 1 && state.sees(j, f)) {
                return true;
            }
        }
        return false;
    }

    private boolean isFalse(Yawn y) {
        return y.meant() && judged(y.face());
    }

    int judges(int those) {
        if (those < 0 || those >= 1 << state.faces.size()) {
            return -1;
        }
        judges = those;
        int many = 0;
        for (int f = 0; f < state.faces.size(); f++) {
            many += judged(f) ? 1 : 0;
        }
        return many;
    }

    // ---- minutes

    private void save(State s) {
        past.add(new Saved(s, s.faces.size()));
        if (past.size() > 12) {
            past.remove(0);
        }
    }

    boolean yawn(int f, int meant) {
        if (!free(f) || meant < 0 || meant > 1) {
            return false;
        }
        save(state.copy());
        state.plan(f, meant == 1);
        return true;
    }

    int away(int f) {
        if (!there(f)) {
            return -1;
        }
        save(state.copy());
        state.flip(f);
        return (int) state.faces.stream().filter(x -> x.away).count();
    }

    private void tell(Integer... numbers) {
        row = new ArrayList<>(List.of(numbers));
    }

    int catchers(int f, int meant) {
        if (!there(f) || meant < 0 || meant > 1) {
            return -1;
        }
        if (at(f).away) {
            return -2;
        }
        int see = 0;
        int get = 0;
        for (int g = 0; g < state.faces.size(); g++) {
            if (!at(g).away && state.sees(g, f)) {
                see |= 1 << g;
                get |= at(g).due == null && catches(state, g, f, meant == 1, 1) ? 1 << g : 0;
            }
        }
        tell(see);
        return get;
    }

    int minute() {
        save(state.copy());
        List<Yawn> yawns = state.minute();
        int who = 0;
        int falseOnes = 0;
        int caught = 0;
        for (Yawn y : yawns) {
            who |= 1 << y.face();
            falseOnes |= isFalse(y) ? 1 << y.face() : 0;
        }
        for (int f : state.caught) {
            caught |= 1 << f;
        }
        tell(caught, falseOnes);
        return who;
    }

    int minutes(int n) {
        if (n < 0 || n > 300) {
            return -1;
        }
        if (n > 0) {
            save(state.copy());
        }
        int all = 0;
        int falseOnes = 0;
        int start = -1;
        for (int m = 0; m < n; m++) {
            for (Yawn y : state.minute()) {
                all++;
                if (isFalse(y)) {
                    falseOnes++;
                } else if (start < 0) {
                    start = m;
                }
            }
        }
        tell(falseOnes, start);
        return all;
    }

    int hour() {
        String t = text;
        text = "";
        int bad = t.isEmpty() ? 0 : answer(faultOfParts(cut(t, 60), PlainModel::act, PlainModel::actBegun, 99), t, 60);
        if (bad < 0) {
            return bad;
        }
        State before = state.copy();
        int done = 0;
        int yawns = 0;
        boolean stuck = false;
        for (String act : t.isEmpty() ? new String[0] : t.split(";")) {
            char c = act.charAt(0);
            int f = act.charAt(1) - 'a';
            if (c == 'm') {
                for (List<Yawn> some : state.minutes(Integer.parseInt(act.substring(1)))) {
                    yawns += some.size();
                }
            } else if (!there(f) || (c == 'y' || c == 'f') && !free(f)) {
                stuck = true;
                break;
            } else if (c == 'a') {
                state.flip(f);
            } else if (c == 't') {
                at(f).tired = act.charAt(2) - '0';
            } else {
                state.plan(f, c == 'f');
            }
            done++;
        }
        if (done > 0) {
            save(before);
        }
        tell(stuck ? 1 : 0, yawns);
        return done;
    }

    private void bringBack(State s) {
        State back = s.copy();
        for (int f = 0; f < state.faces.size(); f++) {
            back.faces.get(f).delay = at(f).delay;
            back.faces.get(f).told = at(f).told;
        }
        state = back;
    }

    int undo() {
        if (past.isEmpty()) {
            return -1;
        }
        bringBack(past.remove(past.size() - 1).state());
        return past.size();
    }

    int book(int i, int what) {
        if (i < 0 || i >= state.book.size() || what < 0 || what > 4) {
            throw new NoSuchElementException();
        }
        Yawn y = state.book.get(i);
        int[] tells = {y.minute(), y.face(), or(y.cause()), y.meant() ? 1 : 0, isFalse(y) ? 1 : 0};
        return tells[what];
    }

    int back(int i) {
        if (i < 0 || i >= state.book.size()) {
            return -1;
        }
        Yawn y = state.book.get(i);
        int steps = 0;
        while (y.cause() != null) {
            steps++;
            Yawn earlier = null;
            for (Yawn z : state.book) {
                if (z.face() == y.cause() && z.minute() < y.minute()) {
                    earlier = z;
                }
            }
            if (earlier == null) {
                tell(y.cause(), 0);
                return steps;
            }
            y = earlier;
        }
        tell(y.face(), 1);
        return steps;
    }

    // ---- minutes to come

    private Start startOf(State s, int n) {
        int falseOnes = 0;
        for (int m = 0; m < n; m++) {
            for (Yawn y : s.minute()) {
                if (!isFalse(y)) {
                    return new Start(m, y.face(), falseOnes);
                }
                falseOnes++;
            }
        }
        return null;
    }

    private static int told(Start s) {
        return s == null ? -1 : s.after();
    }

    private static int late(Start s) {
        return s == null ? 9999 : s.after();
    }

    int start() {
        Start s = startOf(state.copy(), 300);
        if (s == null) {
            return -2;
        }
        tell(s.face(), s.falseOnes());
        return s.after();
    }

    private int[] tally(State s, int n) {
        int[] by = new int[state.faces.size()];
        for (List<Yawn> some : s.minutes(n)) {
            for (Yawn y : some) {
                by[y.face()]++;
            }
        }
        return by;
    }

    private static int sum(int[] by) {
        int sum = 0;
        for (int v : by) {
            sum += v;
        }
        return sum;
    }

    private static int first(int[] by) {
        int best = -1;
        for (int f = 0; f < by.length; f++) {
            if (by[f] > 0 && (best < 0 || by[f] > by[best])) {
                best = f;
            }
        }
        return best;
    }

    int ahead(int n) {
        if (n < 0 || n > 300) {
            return -1;
        }
        int[] by = tally(state.copy(), n);
        row = new ArrayList<>();
        for (int v : by) {
            row.add(v);
        }
        return sum(by);
    }

    int watch(int n) {
        if (n < 0 || n > 300) {
            return -1;
        }
        int[] by = tally(state.copy(), n);
        int best = first(by);
        if (best < 0) {
            return -2;
        }
        tell(by[best], (int) state.copy().minutes(n).stream().filter(List::isEmpty).count());
        return best;
    }

    int when(int f) {
        if (!there(f)) {
            return -1;
        }
        State s = state.copy();
        for (int m = 0; m < 300; m++) {
            for (Yawn y : s.minute()) {
                if (y.face() == f) {
                    tell(or(y.cause()));
                    return m;
                }
            }
        }
        return -2;
    }

    int spreads(int f, int n) {
        if (!there(f) || n < 1 || n > 300) {
            return -1;
        }
        if (!free(f)) {
            return -2;
        }
        int[] by = tally(state.copy(), n);
        State s = state.copy();
        s.plan(f, false);
        int[] then = tally(s, n);
        int bits = 0;
        for (int g = 0; g < by.length; g++) {
            bits |= then[g] > 0 && by[g] == 0 ? 1 << g : 0;
        }
        tell(sum(then) - sum(by));
        return bits;
    }

    private int diesIn(int f, int gone) {
        State s = state.copy();
        s.frozen = true;
        for (int g = 0; g < s.faces.size(); g++) {
            s.faces.get(g).clear();
            s.faces.get(g).away |= (gone >> g & 1) == 1;
        }
        s.plan(f, false);
        for (int n = 1; n <= 300; n++) {
            s.minute();
            if (s.faces.stream().allMatch(x -> x.due == null)) {
                return n;
            }
        }
        return -2;
    }

    int dies(int f) {
        return !there(f) ? -1 : at(f).away ? -3 : diesIn(f, 0);
    }

    int everlasting() {
        int bits = 0;
        for (int f = 0; f < state.faces.size(); f++) {
            bits |= dies(f) == -2 ? 1 << f : 0;
        }
        return bits;
    }

    /** The best set of FACES (of as few the least) out of those that may be, or -1. */
    private int fewest(Predicate<Integer> may, Predicate<Integer> good) {
        int best = -1;
        for (int set = 0; set < 1 << state.faces.size(); set++) {
            boolean able = true;
            for (int f = 0; f < state.faces.size(); f++) {
                able &= (set >> f & 1) == 0 || may.test(f);
            }
            if (able && (best < 0 || Integer.bitCount(set) < Integer.bitCount(best)) && good.test(set)) {
                best = set;
            }
        }
        return best;
    }

    int cuts(int f) {
        if (!there(f)) {
            return -1;
        }
        if (at(f).away) {
            return -3;
        }
        int best = fewest(g -> g != f && !at(g).away, set -> diesIn(f, set) >= 0);
        if (best < 0) {
            return -2;
        }
        tell(best, diesIn(f, best));
        return Integer.bitCount(best);
    }

    int reach(int f) {
        if (!there(f)) {
            return -1;
        }
        int bits = 0;
        int most = 0;
        for (int g = 0; g < state.faces.size(); g++) {
            int steps = g == f ? -1 : steps(f, g);
            if (steps > 0) {
                bits |= 1 << g;
                most = Math.max(most, steps);
            }
        }
        tell(most);
        return bits;
    }

    /** The fewest steps from one to another, walked as layers of sets. */
    private int steps(int f, int g) {
        Set<Integer> layer = new TreeSet<>();
        if (!at(f).away) {
            layer.add(f);
        }
        for (int steps = 0; steps <= 9; steps++) {
            if (layer.contains(g)) {
                return steps;
            }
            Set<Integer> next = new TreeSet<>();
            for (int a : layer) {
                for (int b = 0; b < state.faces.size(); b++) {
                    if (!at(b).away && state.sees(b, a)) {
                        next.add(b);
                    }
                }
            }
            layer = next;
        }
        return -1;
    }

    private List<Integer> bestPath;
    private int bestMinutes;

    private void walk(int here, int to, List<Integer> path, int minutes) {
        if (here == to) {
            if (bestPath == null || minutes < bestMinutes) {
                bestPath = new ArrayList<>(path);
                bestMinutes = minutes;
            }
            return;
        }
        for (int f = 0; f < state.faces.size(); f++) {
            if (!at(f).away && state.sees(f, here) && !path.contains(f)
                    && (bestPath == null || minutes + at(f).delay < bestMinutes)) {
                path.add(f);
                walk(f, to, path, minutes + at(f).delay);
                path.remove(path.size() - 1);
            }
        }
    }

    int path(int from, int to) {
        if (!there(from) || !there(to) || at(from).away || at(to).away) {
            return -1;
        }
        bestPath = null;
        walk(from, to, new ArrayList<>(), 0);
        if (bestPath == null) {
            return -2;
        }
        row = bestPath;
        return bestMinutes;
    }

    // ---- judges and men

    int enough() {
        int best = fewest(f -> true, set -> {
            for (int f = 0; f < state.faces.size(); f++) {
                boolean is = false;
                for (int j = 0; j < state.faces.size(); j++) {
                    is |= (set >> j & 1) == 1 && state.sees(j, f);
                }
                if (!is) {
                    return false;
                }
            }
            return true;
        });
        if (best < 0) {
            return -2;
        }
        tell(best);
        return Integer.bitCount(best);
    }

    private Start startIf(int f, int more) {
        State s = state.copy();
        if (f >= 0) {
            s.tire(f, more);
        }
        return startOf(s, 300);
    }

    int dull(int v, int m) {
        if (v < 1 || v > 9 || m < 0 || m > 299) {
            return -1;
        }
        int best = -2;
        long near = Long.MAX_VALUE;
        Start its = null;
        for (int f = 0; f < state.faces.size(); f++) {
            Start s = startIf(f, v);
            long d = s == null ? 100000 : Math.abs(s.after() - m);
            if (d < near) {
                near = d;
                best = f;
                its = s;
            }
        }
        if (best >= 0) {
            tell(told(its));
        }
        return best;
    }

    int bluff() {
        int best = -2;
        Start its = null;
        for (int f = 0; f < state.faces.size(); f++) {
            if (free(f)) {
                State s = state.copy();
                s.plan(f, true);
                Start start = startOf(s, 300);
                if (best < 0 || late(start) < late(its)) {
                    best = f;
                    its = start;
                }
            }
        }
        if (best >= 0) {
            tell(told(its), told(startIf(-1, 0)));
        }
        return best;
    }

    int calm(int f, int n) {
        if (!there(f) || n < 1 || n > 300) {
            return -1;
        }
        for (int less = 0; less <= 9; less++) {
            State s = state.copy();
            s.tire(f, -less);
            if (tally(s, n)[f] == 0) {
                return less;
            }
        }
        return -2;
    }

    int hush(int m) {
        if (m < 1 || m > 300) {
            return -1;
        }
        int best = fewest(f -> !at(f).away, set -> {
            State s = state.copy();
            for (int f = 0; f < state.faces.size(); f++) {
                if ((set >> f & 1) == 1) {
                    s.flip(f);
                }
            }
            return startOf(s, m) == null;
        });
        tell(best);
        return Integer.bitCount(best);
    }

    int gaze(int f, int n) {
        if (!there(f) || n < 1 || n > 300) {
            return -2;
        }
        int best = -1;
        int most = -1;
        for (int g = -1; g < state.faces.size(); g++) {
            if (g != f) {
                State s = state.copy();
                if (g >= 0) {
                    s.faces.get(g).told |= 1 << f;
                }
                int caused = 0;
                for (List<Yawn> some : s.minutes(n)) {
                    for (Yawn y : some) {
                        caused += y.cause() != null && y.cause() == f ? 1 : 0;
                    }
                }
                if (caused > most) {
                    most = caused;
                    best = g;
                }
            }
        }
        tell(most);
        return best;
    }

    private Start startOfBoth(int[] men) {
        State s = state.copy();
        if (men[0] >= 0) {
            s.tire(men[0], 4);
        }
        if (men[1] >= 0) {
            s.tire(men[1], -4);
        }
        return startOf(s, 300);
    }

    int rests(int m) {
        if (m < 0 || m > 20) {
            return -1;
        }
        int[] men = {-1, -1};
        int turns = 0;
        int still = 0;
        for (; turns < m && still < 2; turns++) {
            int party = turns & 1;
            List<Integer> order = new ArrayList<>();
            order.add(men[party]);
            order.add(-1);
            for (int f = 0; f < state.faces.size(); f++) {
                order.add(f);
            }
            int best = order.get(0);
            int value = 0;
            for (int k = 0; k < order.size(); k++) {
                int[] then = men.clone();
                then[party] = order.get(k);
                int is = party == 0 ? -late(startOfBoth(then)) : late(startOfBoth(then));
                if (k == 0 || is > value) {
                    best = order.get(k);
                    value = is;
                }
            }
            still = best == men[party] ? still + 1 : 0;
            men[party] = best;
        }
        tell(still == 2 ? 1 : 0, men[0], men[1], told(startOfBoth(men)));
        return turns;
    }

    // ---- crews

    int crew(int ready, int hold, int late) {
        if (ready < 0 || ready > 600 || hold < 0 || hold > 9 || late < 0 || late > 99) {
            return -1;
        }
        if (crews.size() == 5) {
            return -2;
        }
        crews.add(new Crew(ready, hold, late));
        return crews.size() - 1;
    }

    int home() {
        int many = crews.size();
        crews.clear();
        return many;
    }

    int cost(int c) {
        if (c < 0 || c >= crews.size()) {
            return -1;
        }
        Start s = startIf(-1, 0);
        if (s == null) {
            return -2;
        }
        tell(crews.get(c).ready() <= s.after() ? 1 : 0);
        return crews.get(c).price(s.after());
    }

    int best(int c) {
        if (c < 0 || c >= crews.size()) {
            return -1;
        }
        List<Integer> ways = new ArrayList<>();
        for (int f = -1; f < state.faces.size(); f++) {
            Start s = startIf(f, 3);
            if (s != null) {
                ways.add(s.after());
            }
        }
        if (ways.isEmpty()) {
            return -2;
        }
        int best = -1;
        int least = Integer.MAX_VALUE;
        for (int ready = 0; ready < 300; ready++) {
            Crew crew = new Crew(ready, crews.get(c).hold(), crews.get(c).late());
            int all = ways.stream().mapToInt(crew::price).sum();
            if (all < least) {
                least = all;
                best = ready;
            }
        }
        tell(least, ways.size());
        return best;
    }

    // ---- yawns that were seen

    int seen(int f, int n) {
        if (!there(f) || n < 0 || n > 60 || seen.size() == 10) {
            return -1;
        }
        seen.add(new Sighting(f, n));
        return seen.size();
    }

    int forget() {
        int many = seen.size();
        seen.clear();
        return many;
    }

    private boolean comes(State s) {
        List<List<Yawn>> all = s.minutes(61);
        return seen.stream().allMatch(z -> all.get(z.n()).stream().anyMatch(y -> y.face() == z.face()));
    }

    private boolean comesIf(int set) {
        State s = state.copy();
        for (int f = 0; f < s.faces.size(); f++) {
            if ((set >> f & 1) == 1) {
                s.plan(f, false);
            }
        }
        return comes(s);
    }

    int began() {
        int bits = 0;
        for (int f = 0; f < state.faces.size(); f++) {
            bits |= free(f) && comesIf(1 << f) ? 1 << f : 0;
        }
        tell(comesIf(0) ? 1 : 0);
        return bits;
    }

    int delays(int f) {
        if (!there(f)) {
            return -1;
        }
        int bits = 0;
        for (int d = 1; d <= 9; d++) {
            State s = state.copy();
            s.faces.get(f).delay = d;
            bits |= comes(s) ? 1 << d : 0;
        }
        return bits;
    }

    int fewest() {
        int best = fewest(this::free, this::comesIf);
        if (best < 0) {
            return -2;
        }
        tell(best);
        return Integer.bitCount(best);
    }

    int season(int seed, int n) {
        if (n < 1 || n > 20) {
            return -1;
        }
        long r = seed & 0xffffffffL;
        int[] by = new int[state.faces.size()];
        int many = 0;
        int soonest = 9999;
        int latest = -1;
        for (int k = 0; k < n; k++) {
            State s = state.copy();
            for (Face f : s.faces) {
                r = (r * 1103515245L + 12345L) & 0xffffffffL;
                f.tired = (int) (r / 65536 % 10);
            }
            Start start = startOf(s, 300);
            if (start != null) {
                many++;
                by[start.face()]++;
                soonest = Math.min(soonest, start.after());
                latest = Math.max(latest, start.after());
            }
        }
        int most = first(by);
        tell(many == 0 ? -1 : soonest, latest, most, most < 0 ? 0 : by[most]);
        return many;
    }

    boolean keep(int i) {
        if (i < 0 || i > 1) {
            return false;
        }
        kept[i] = new Saved(state.copy(), state.faces.size());
        return true;
    }

    boolean again(int i) {
        if (i < 0 || i > 1 || kept[i] == null || kept[i].faces() != state.faces.size()) {
            return false;
        }
        bringBack(kept[i].state());
        past.clear();
        return true;
    }

    private int bits(Predicate<Face> which) {
        int bits = 0;
        for (int f = 0; f < state.faces.size(); f++) {
            bits |= which.test(at(f)) ? 1 << f : 0;
        }
        return bits;
    }

    int count(int what) {
        return switch (what) {
            case 0 -> state.faces.size();
            case 1 -> state.now;
            case 2 -> judges;
            case 3 -> bits(f -> f.away);
            case 4 -> bits(f -> f.due != null);
            case 5 -> state.book.size();
            case 6 -> state.faces.stream().mapToInt(f -> f.tired).sum();
            case 7 -> crews.size();
            case 8 -> past.size();
            case 9 -> seen.size();
            case 10 -> row.size();
            case 11 -> text.length();
            default -> -1;
        };
    }

    int row(int i) {
        if (i < 0 || i >= row.size()) {
            throw new NoSuchElementException();
        }
        return row.get(i);
    }
}
