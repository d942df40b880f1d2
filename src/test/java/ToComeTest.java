/** Promises 20 to 29: minutes to come. */
public final class ToComeTest {
    public static void main(String[] args) {
        start();
        ahead();
        watch();
        when();
        spreads();
        dies();
        everlasting();
        cuts();
        reach();
        path();
        nothingChanges();
        Due.end();
    }

    private static void start() {
        StartedByAYawn x = Due.lake("5/2>b;5/3>a");
        Due.is("start: TIRED", x.start(), 40);
        Due.row("start: the first", x, 0, 0);
        x.judges(2);
        x.yawn(0, 1);
        Due.is("start: behind a FALSE one", x.start(), 3);
        Due.row("start: behind a FALSE one", x, 1, 1);
        x.yawn(1, 0);
        Due.is("start: in the same MINUTE", x.start(), 0);
        Due.row("start: the first that is not FALSE", x, 1, 1);
        x.judges(0);
        Due.is("start: nobody sees it", x.start(), 0);
        Due.row("start: nobody sees it", x, 0, 0);
        x.judges(2);
        x.minute();
        Due.is("start: counted from now, both less TIRED", x.start(), 49);
        StartedByAYawn y = Due.lake("5/2>b;5/3>a");
        y.judges(1);
        y.yawn(0, 0);
        y.yawn(1, 1);
        Due.is("start: a FALSE one of a later FACE", y.start(), 0);
        Due.row("start: it is not ahead", y, 0, 0);
        y.away(0);
        y.away(1);
        Due.is("start: none", y.start(), -2);
        Due.row("start: the ROW stays", y, 0, 0);
        Due.is("start: no FACES", new StartedByAYawn().start(), -2);
    }

    private static void ahead() {
        StartedByAYawn x = Due.lake("0/1;1/1");
        Due.is("ahead: 80", x.ahead(80), 0);
        Due.row("ahead: 80", x, 0, 0);
        Due.is("ahead: 91", x.ahead(91), 3);
        Due.row("ahead: 91", x, 1, 2);
        Due.is("ahead: 300", x.ahead(300), 43);
        Due.row("ahead: 300", x, 21, 22);
        Due.is("ahead: 0", x.ahead(0), 0);
        Due.row("ahead: 0", x, 0, 0);
        Due.is("ahead: 301", x.ahead(301), -1);
        Due.is("ahead: -1", x.ahead(-1), -1);
        StartedByAYawn y = new StartedByAYawn();
        y.minute();
        Due.is("ahead: no FACES", y.ahead(5), 0);
        Due.row("ahead: no FACES", y);
    }

    private static void watch() {
        StartedByAYawn x = Due.lake("0/1;1/1;1/1");
        Due.is("watch: of equal ones the first", x.watch(300), 1);
        Due.row("watch: how often, quiet", x, 22, 278);
        Due.is("watch: 80", x.watch(80), -2);
        Due.is("watch: 0", x.watch(0), -2);
        Due.is("watch: 301", x.watch(301), -1);
        Due.is("watch: -1", x.watch(-1), -1);
        Due.row("watch: the ROW stays", x, 22, 278);
        Due.is("watch: no FACES", new StartedByAYawn().watch(9), -2);
    }

    private static void when() {
        StartedByAYawn x = Due.lake("5/2>b;5/3>a;0/1;0/1");
        x.away(2);
        Due.is("when: TIRED", x.when(0), 40);
        Due.row("when: without CAUSE", x, -1);
        x.yawn(0, 0);
        Due.is("when: by a", x.when(1), 3);
        Due.row("when: by a", x, 0);
        Due.is("when: AWAY", x.when(2), -2);
        Due.row("when: the ROW stays", x, 0);
        Due.is("when: the first one", x.when(0), 0);
        Due.is("when: none such", x.when(4), -1);
        Due.is("when: none such, -1", x.when(-1), -1);
        Due.is("when: at last", x.when(3), 90);
    }

    private static void spreads() {
        StartedByAYawn x = Due.lake("5/1;5/1>a;5/1>b", "1");
        int[] bits = {1, 3, 7, 7};
        for (int n = 1; n <= 4; n++) {
            Due.is("spreads: " + n, x.spreads(0, n), bits[n - 1]);
            Due.row("spreads: " + n, x, Math.min(n, 3));
        }
        Due.is("spreads: 0", x.spreads(0, 0), -1);
        Due.is("spreads: 301", x.spreads(0, 301), -1);
        Due.is("spreads: none such", x.spreads(3, 5), -1);
        x.yawn(0, 1);
        Due.is("spreads: has DUE", x.spreads(0, 5), -2);
        Due.is("spreads: has DUE, 0", x.spreads(0, 0), -1);
        Due.is("spreads: b yawns all the same", x.spreads(1, 3), 0);
        Due.row("spreads: the same, sooner", x, 0);
        x.away(2);
        Due.is("spreads: AWAY", x.spreads(2, 5), -2);
        StartedByAYawn y = Due.lake("0/1;8/9>a;0/1>b;0/1>b", "(m=10)+(i=1)");
        StartedByAYawn z = Due.lake("5/1;5/1>a", "x=0");
        Due.is("spreads: true", z.spreads(0, 2), 3);
        Due.is("dies: true", z.dies(0), 2);
        Due.is("spreads: fewer", y.spreads(0, 12), 1);
        Due.row("spreads: fewer", y, -1);
    }

    private static void dies() {
        StartedByAYawn x = Due.lake("5/1;5/2>a;5/3>b;4/1>e;4/1>d", "1");
        Due.is("dies: a, b, c", x.dies(0), 6);
        Due.is("dies: b, c", x.dies(1), 4);
        Due.is("dies: c", x.dies(2), 1);
        Due.is("dies: d, e, d ..", x.dies(3), -2);
        Due.is("dies: none such", x.dies(5), -1);
        Due.is("dies: none such, -1", x.dies(-1), -1);
        x.yawn(3, 0);
        Due.is("dies: all others having no DUE", x.dies(2), 1);
        x.away(4);
        Due.is("dies: e is AWAY", x.dies(3), 1);
        Due.is("dies: AWAY", x.dies(4), -3);
        Due.rule(x, "m<299");
        x.away(4);
        Due.is("dies: within 300", x.dies(3), 300);
        Due.rule(x, "m<300");
        Due.is("dies: not within 300", x.dies(3), -2);
        x.set(2, 0, 9);
        Due.is("dies: TIREDNESS left aside", x.dies(2), 1);
        Due.rule(x, "t=4");
        Due.is("dies: all stay as TIRED as now", x.dies(3), -2);
        Due.rule(x, "k<5");
        Due.is("dies: how often counts", x.dies(3), 10);
    }

    private static void everlasting() {
        StartedByAYawn x = Due.lake("5/1;5/2>a;5/3>b;4/1>e;4/1>d", "1");
        Due.is("everlasting: d, e", x.everlasting(), 24);
        x.set(0, 2, 16);
        Due.is("everlasting: a is not seen by them", x.everlasting(), 24);
        x.set(3, 2, 17);
        Due.is("everlasting: a, d, e", x.everlasting(), 25);
        x.away(4);
        Due.is("everlasting: AWAY", x.everlasting(), 0);
        Due.is("everlasting: no FACES", new StartedByAYawn().everlasting(), 0);
    }

    private static void cuts() {
        StartedByAYawn x = Due.lake("5/1>c;5/2>a;5/3>b;4/1>e;4/1>d;1/1>a", "1");
        Due.is("cuts: one", x.cuts(0), 1);
        Due.row("cuts: the least, f yawns yet", x, 2, 2);
        Due.is("cuts: from d", x.cuts(3), 1);
        Due.row("cuts: e", x, 16, 1);
        Due.is("cuts: from f, none", x.cuts(5), 0);
        Due.row("cuts: none", x, 0, 1);
        x.away(3);
        Due.is("cuts: AWAY", x.cuts(3), -3);
        Due.is("cuts: none such", x.cuts(6), -1);
        Due.is("cuts: none such, -1", x.cuts(-1), -1);
        Due.row("cuts: the ROW stays", x, 0, 1);
        Due.is("cuts: one is AWAY already", x.cuts(4), 0);
        StartedByAYawn y = Due.lake("1/1>bc;1/1>a;1/1>a", "1");
        Due.is("cuts: both", y.cuts(0), 2);
        Due.row("cuts: both", y, 6, 1);
        StartedByAYawn z = Due.lake("1/1>d;1/1>a;1/1>a;1/1>bc", "1");
        Due.is("cuts: one of a higher number, not two", z.cuts(0), 1);
        Due.row("cuts: one of a higher number, not two", z, 8, 2);
        Due.is("cuts: a alone", y.cuts(2), 1);
        Due.row("cuts: a alone", y, 1, 1);
    }

    private static void reach() {
        StartedByAYawn x = Due.lake("5/1>c;5/2>a;5/3>b;4/1>ac;4/1", "0");
        Due.is("reach: b, c, d", x.reach(0), 14);
        Due.row("reach: c behind b", x, 2);
        Due.is("reach: nobody", x.reach(4), 0);
        Due.row("reach: nobody", x, 0);
        Due.is("reach: a, b, d", x.reach(2), 11);
        Due.row("reach: b behind a", x, 2);
        Due.is("reach: none such", x.reach(5), -1);
        Due.is("reach: none such, -1", x.reach(-1), -1);
        x.away(1);
        Due.is("reach: b is AWAY", x.reach(0), 8);
        Due.row("reach: b is AWAY", x, 1);
        Due.is("reach: from one that is AWAY", x.reach(1), 0);
        Due.row("reach: from one that is AWAY", x, 0);
    }

    private static void path() {
        StartedByAYawn x = Due.lake("1/9;1/2>a;1/2>a;1/1>bc;1/6>ad;1/1", "0");
        Due.is("path: itself", x.path(0, 0), 0);
        Due.row("path: itself", x);
        Due.is("path: to d", x.path(0, 3), 3);
        Due.row("path: the least row", x, 1, 3);
        Due.is("path: to e", x.path(0, 4), 6);
        Due.row("path: at once", x, 4);
        x.set(4, 2, 8);
        Due.is("path: to e by d", x.path(0, 4), 9);
        Due.row("path: to e by d", x, 1, 3, 4);
        x.set(1, 1, 3);
        Due.is("path: by c", x.path(0, 4), 9);
        Due.row("path: by c", x, 2, 3, 4);
        Due.is("path: none", x.path(0, 5), -2);
        Due.is("path: not back", x.path(3, 0), -2);
        Due.is("path: none such", x.path(0, 6), -1);
        Due.is("path: none such, -1", x.path(-1, 0), -1);
        Due.row("path: the ROW stays", x, 2, 3, 4);
        x.away(2);
        Due.is("path: c is AWAY", x.path(0, 4), 10);
        Due.row("path: c is AWAY", x, 1, 3, 4);
        Due.is("path: to one AWAY", x.path(0, 2), -1);
        Due.is("path: from one AWAY", x.path(2, 3), -1);
        Due.is("path: from and to one AWAY", x.path(2, 2), -1);
        StartedByAYawn z = Due.lake("1/4>b;1/1;1/3>a;1/1>c", "0");
        Due.is("path: through a", z.path(1, 3), 8);
        Due.row("path: through a", z, 0, 2, 3);
        Due.is("path: to a", z.path(1, 0), 4);
        Due.row("path: to a", z, 0);
        StartedByAYawn y = Due.lake("1/1;1/1>ac;1/1>a;1/2>a;1/1>bd", "0");
        Due.is("path: the least row is the longer one", y.path(0, 4), 2);
        Due.row("path: the least row is the longer one", y, 1, 4);
    }

    private static void nothingChanges() {
        StartedByAYawn x = Due.lake("5/2>b;5/3>a;2/1>ab");
        x.yawn(0, 0);
        x.start();
        x.ahead(300);
        x.watch(300);
        x.when(2);
        x.spreads(1, 300);
        x.dies(0);
        x.everlasting();
        x.cuts(0);
        Due.is("questions: NOW", x.count(1), 0);
        Due.is("questions: DUE", x.count(4), 1);
        Due.is("questions: AWAY", x.count(3), 0);
        Due.is("questions: TIRED", x.count(6), 12);
        Due.is("questions: THE BOOK", x.count(5), 0);
        Due.is("questions: what can be undone", x.count(8), 1);
        Due.is("questions: how often", x.face(0, 3), 0);
    }
}
