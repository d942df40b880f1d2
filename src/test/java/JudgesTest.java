/** Promises 30 to 36: judges and men. */
public final class JudgesTest {
    private static final int[] NO_FACE = {-1, -2, 9, Integer.MAX_VALUE, Integer.MIN_VALUE};

    public static void main(String[] args) {
        enough();
        dull();
        dullRefused();
        bluff();
        bluffNone();
        calm();
        hush();
        gaze();
        gazeRefused();
        rests();
        restsOnOne();
        restsTies();
        restsTurns();
        Doc.quoted(30, 36);
        Due.end();
    }

    private static void enough() {
        Due.says(30, "The fewest FACES by which JUDGES must stand so that each FACE (AWAY or not) is seen: how many (0 without FACES);", () -> {
            StartedByAYawn none = new StartedByAYawn();
            Due.asks("without FACES", none, none::enough, 0);
            StartedByAYawn x = Due.lake("1/1>b;1/1>c;1/1>ab");
            Due.asks("two of three", x, x::enough, 2);
            x.away(0);
            x.away(1);
            x.away(2);
            Due.asks("by such as are AWAY, all of whom are", x, x::enough, 2);
            x.judges(7);
            Due.is("as JUDGES stand counts not", x.enough(), 2);
            StartedByAYawn y = Due.lake("1/1>i;1/1>a;1/1>b;1/1>c;1/1>d;1/1>e;1/1>f;1/1>g;1/1>h");
            Due.told("all nine", y, y.enough(), 9, 511);
        });
        Due.says(30, "the ROW: they (bits; of as few the least).", () -> {
            StartedByAYawn none = new StartedByAYawn();
            Due.told("without FACES", none, none.enough(), 0, 0);
            StartedByAYawn x = Due.lake("1/1>b;1/1>c;1/1>ab");
            Due.told("b and c", x, x.enough(), 2, 6);
            StartedByAYawn y = Due.lake("1/1>bcd;1/1>a;1/1>a;1/1>a");
            Due.told("a and b, not c or d", y, y.enough(), 2, 3);
            StartedByAYawn z = Due.lake("1/1>b;1/1>af;1/1>d;1/1>ce;1/1>abcdf;1/1>e");
            Due.told("d and e, not a, b, c and d", z, z.enough(), 2, 8 + 16);
        });
        Due.says(30, "-2: somebody is seen by none.", () -> {
            StartedByAYawn x = Due.lake("1/1>b;1/1>a;1/1>ab");
            x.catchers(0, 0);
            Due.none("c by none", x, x::enough, -2);
            x.set(2, 2, 7);
            Due.none("c by itself", x, x::enough, -2);
            StartedByAYawn one = Due.lake("1/1");
            Due.none("one alone", one, one::enough, -2);
        });
    }

    private static void dull() {
        Due.says(31, "The FACE which, being v more TIRED (1 .. 9; 9 at most) now, makes THE START the nearest to m MINUTES (0 .. 299) from now;", () -> {
            StartedByAYawn x = Due.lake("5/1;3/1;3/1");
            Due.asks("a: 30", x, () -> x.dull(1, 30), 0);
            Due.asks("b, for 40 stays", x, () -> x.dull(1, 40), 1);
            Due.asks("b from 3 to 7: 20", x, () -> x.dull(4, 20), 1);
            Due.asks("9 at most", x, () -> x.dull(9, 0), 0);
            Due.asks("the farthest m", x, () -> x.dull(1, 299), 1);
            StartedByAYawn one = Due.lake("5/1");
            Due.asks("one alone, for 30, nearer 40 as it is", one, () -> one.dull(1, 40), 0);
            Due.row("it is more TIRED in any case", one, 30);
            x.minutes(15);
            Due.asks("from now: a 15, b 25", x, () -> x.dull(1, 16), 0);
            x.judges(0);
            x.away(0);
            Due.asks("a is AWAY, b 35, a 45", x, () -> x.dull(1, 44), 0);
        });
        Due.says(31, "of as near ones the first;", () -> {
            StartedByAYawn x = Due.lake("3/1;5/1;3/1");
            Due.is("40 by a and c", x.dull(1, 40), 0);
            Due.is("40 by a, 30 by b: 5 from each", x.dull(1, 35), 0);
            Due.is("30 by b alone", x.dull(1, 34), 1);
            StartedByAYawn y = Due.lake("5/1;3/1;3/1");
            Due.is("30 by a, 40 by b: 5 from each", y.dull(1, 35), 0);
        });
        Due.says(31, "one without START is the farthest: it;", () -> {
            StartedByAYawn x = Due.lake("5/1;3/1");
            x.away(0);
            x.away(1);
            Due.is("all are", x.dull(1, 299), 0);
            x.away(1);
            Due.is("by b itself", x.dull(1, 299), 0);
            Due.is("by b itself, TIRED 4", x.dull(1, 50), 1);
        });
        Due.says(31, "the ROW: after how many MINUTES it starts then (NONE: not).", () -> {
            StartedByAYawn x = Due.lake("5/1;3/1");
            Due.told("30", x, x.dull(1, 0), 0, 30);
            Due.told("40", x, x.dull(1, 299), 1, 40);
            Due.told("now", x, x.dull(4, 0), 0, 0);
            x.away(0);
            x.away(1);
            Due.told("not", x, x.dull(1, 0), 0, -1);
        });
    }

    private static void dullRefused() {
        Due.says(31, "-2: no FACES;", () -> {
            StartedByAYawn x = new StartedByAYawn();
            x.minute();
            Due.none("none", x, () -> x.dull(1, 0), -2);
            Due.none("none", x, () -> x.dull(9, 299), -2);
        });
        Due.says(31, "NONE: others.", () -> {
            StartedByAYawn x = Due.lake("5/1;3/1");
            StartedByAYawn none = new StartedByAYawn();
            x.dull(1, 1);
            int[][] bad = {{0, 0}, {-1, 0}, {10, 0}, {1, -1}, {1, 300}, {Integer.MAX_VALUE, 0}, {Integer.MIN_VALUE, 0},
                {1, Integer.MAX_VALUE}, {1, Integer.MIN_VALUE}};
            for (int[] b : bad) {
                Due.refused("dull(" + b[0] + ", " + b[1] + ")", x, () -> x.dull(b[0], b[1]));
                Due.refused("no FACES, dull(" + b[0] + ", " + b[1] + ")", none, () -> none.dull(b[0], b[1]));
            }
        });
    }

    private static void bluff() {
        Due.says(32, "The FACE (not AWAY, without DUE) by whose yawning now, meant, THE START is the soonest (none is the latest);", () -> {
            StartedByAYawn x = Due.lake("5/1>b;4/1>a;2/1");
            x.judges(3);
            Due.asks("c is not seen", x, x::bluff, 2);
            x.away(2);
            Due.asks("c is AWAY: b catches a's", x, x::bluff, 0);
            Due.rule(x, "0");
            Due.asks("nobody catches b's, and a stays as TIRED", x, x::bluff, 1);
            Due.rule(x, "x");
            Due.asks("meant", x, x::bluff, 0);
            x.yawn(0, 1);
            Due.asks("a has DUE", x, x::bluff, 1);
        });
        Due.says(32, "of as soon ones the first: it;", () -> {
            StartedByAYawn x = Due.lake("5/1>b;4/1>a;2/1");
            Due.is("now, all", x.bluff(), 0);
            x.judges(2);
            Due.is("now, b and c", x.bluff(), 1);
            x.yawn(2, 0);
            Due.is("c yawns, a is seen", x.bluff(), 0);
        });
        Due.says(32, "the ROW: after how many MINUTES it is then (NONE: none), and as it is (likewise).", () -> {
            StartedByAYawn x = Due.lake("5/1>b;4/1>a;2/1");
            x.judges(3);
            Due.told("now by c, else by a", x, x.bluff(), 2, 0, 40);
            x.away(2);
            Due.told("after 1 by b", x, x.bluff(), 0, 1, 40);
            Due.rule(x, "0");
            Due.told("not sooner", x, x.bluff(), 1, 40, 40);
            x.yawn(0, 1);
            Due.told("a is less TIRED, b, too", x, x.bluff(), 1, 50, 50);
            x.minutes(3);
            Due.told("counted from now, b 47, a with it", x, x.bluff(), 0, 47, 47);
        });
    }

    private static void bluffNone() {
        Due.says(32, "-2: there is none such.", () -> {
            StartedByAYawn x = Due.lake("5/1;4/2>a");
            x.bluff();
            x.yawn(0, 0);
            x.minute();
            x.away(0);
            Due.none("a is AWAY, b has DUE", x, x::bluff, -2);
            x.away(1);
            Due.none("both are AWAY", x, x::bluff, -2);
            x.away(1);
            Due.is("b has no DUE any more", x.bluff(), 1);
            StartedByAYawn none = new StartedByAYawn();
            Due.none("no FACES", none, none::bluff, -2);
        });
    }

    private static void calm() {
        Due.says(33, "By how much less TIRED (0 .. 9; 0 at least is left) a FACE must be now at least so that it does not yawn in the next n MINUTES (1 .. 300): how much.", () -> {
            StartedByAYawn x = Due.lake("5/1;3/1");
            Due.asks("40", x, () -> x.calm(0, 40), 0);
            Due.asks("41", x, () -> x.calm(0, 41), 1);
            Due.asks("50", x, () -> x.calm(0, 50), 1);
            Due.asks("51", x, () -> x.calm(0, 51), 2);
            Due.asks("90", x, () -> x.calm(0, 90), 5);
            x.set(0, 0, 9);
            Due.asks("1", x, () -> x.calm(0, 1), 1);
            Due.asks("9", x, () -> x.calm(0, 90), 9);
            x.away(0);
            Due.asks("AWAY", x, () -> x.calm(0, 300), 0);
            StartedByAYawn y = Due.lake("5/1;5/1>a");
            y.yawn(0, 0);
            Due.is("b catches one by t>3, but later", y.calm(1, 1), 0);
            Due.is("TIRED 3 catches none", y.calm(1, 2), 2);
            StartedByAYawn z = Due.lake("5/1;2/1>a", "t=2");
            z.yawn(0, 0);
            Due.is("1 at least", z.calm(1, 2), 1);
            Due.rule(z, "t=0");
            Due.is("0 is enough", z.calm(1, 2), 0);
            Due.rule(z, "t>0");
            Due.is("0 is left", z.calm(1, 2), 2);
        });
        Due.says(33, "-2: by none;", () -> {
            StartedByAYawn x = Due.lake("5/1;3/1>a", "t<9");
            x.catchers(0, 0);
            Due.none("91", x, () -> x.calm(0, 91), -2);
            Due.none("300", x, () -> x.calm(0, 300), -2);
            x.yawn(0, 0);
            Due.none("DUE now", x, () -> x.calm(0, 1), -2);
            Due.none("catches one however TIRED", x, () -> x.calm(1, 2), -2);
        });
        Due.says(33, "NONE: others.", () -> {
            StartedByAYawn x = Due.lake("5/1;3/1");
            x.catchers(0, 0);
            for (int n : new int[] {0, -1, 301, Integer.MIN_VALUE, Integer.MAX_VALUE}) {
                Due.refused("calm(0, " + n + ")", x, () -> x.calm(0, n));
            }
            Due.refused("calm(2, 9)", x, () -> x.calm(2, 9));
            for (int f : NO_FACE) {
                Due.refused("calm(" + f + ", 9)", x, () -> x.calm(f, 9));
            }
        });
    }

    private static void hush() {
        Due.says(34, "The fewest FACES (not AWAY) to be AWAY from now on so that there is no START in the next m MINUTES (1 .. 300): how many;", () -> {
            StartedByAYawn x = Due.lake("5/1;5/1;0/1");
            Due.asks("40", x, () -> x.hush(40), 0);
            Due.asks("41", x, () -> x.hush(41), 2);
            Due.asks("90", x, () -> x.hush(90), 2);
            Due.asks("91", x, () -> x.hush(91), 3);
            Due.asks("300", x, () -> x.hush(300), 3);
            Due.asks("1", x, () -> x.hush(1), 0);
            x.away(0);
            Due.asks("a is AWAY already", x, () -> x.hush(41), 1);
            x.yawn(2, 0);
            Due.asks("c in the next one", x, () -> x.hush(1), 1);
            StartedByAYawn y = Due.lake("5/1>b;5/1>a;0/1>a");
            y.judges(4);
            y.yawn(0, 1);
            Due.asks("a FALSE one", y, () -> y.hush(1), 0);
            Due.asks("that b catches", y, () -> y.hush(2), 1);
            StartedByAYawn none = new StartedByAYawn();
            Due.asks("no FACES", none, () -> none.hush(300), 0);
        });
        Due.says(34, "the ROW: they (bits; of as few the least).", () -> {
            StartedByAYawn x = Due.lake("5/1;5/1;0/1");
            Due.told("none", x, x.hush(40), 0, 0);
            Due.told("a and b", x, x.hush(41), 2, 3);
            Due.told("all", x, x.hush(91), 3, 7);
            x.away(0);
            Due.told("b, for a is AWAY already", x, x.hush(41), 1, 2);
            StartedByAYawn y = Due.lake("5/1>b;5/1>a;0/1>a");
            y.judges(4);
            y.yawn(0, 1);
            Due.told("a, not b", y, y.hush(2), 1, 1);
            StartedByAYawn z = Due.lake("0/1;0/1;5/1;5/1>c;5/1>c", "1");
            z.judges(16);
            z.yawn(2, 1);
            z.away(4);
            Due.told("c of a higher number, not two", z, z.hush(2), 1, 4);
        });
        Due.says(34, "NONE: another m.", () -> {
            StartedByAYawn x = Due.lake("5/1;5/1");
            x.hush(1);
            for (int m : new int[] {0, -1, 301, Integer.MIN_VALUE, Integer.MAX_VALUE}) {
                Due.refused("hush(" + m + ")", x, () -> x.hush(m));
            }
        });
    }

    private static void gaze() {
        Due.says(35, "Which other FACE had better see a FACE (as it does besides what it SEES), or none had, so that the most yawns of the next n MINUTES (1 .. 300) have that FACE as CAUSE:", () -> {
            StartedByAYawn x = Due.lake("5/1;5/1>a;5/1;5/1>c", "1");
            x.yawn(0, 0);
            Due.asks("c", x, () -> x.gaze(0, 5), 2);
            Due.asks("not so soon", x, () -> x.gaze(0, 1), -1);
            Due.asks("just so soon", x, () -> x.gaze(0, 2), 2);
            Due.asks("a had better see b", x, () -> x.gaze(1, 3), 0);
            StartedByAYawn two = Due.lake("5/1;5/1;5/1>b", "n=2");
            Due.hour(two, "ya;yb");
            Due.asks("c SEES b besides", two, () -> two.gaze(0, 2), 2);
            StartedByAYawn y = Due.lake("8/1;0/1;8/1>b", "1");
            Due.asks("b, for a gets TIRED", y, () -> y.gaze(0, 12), 1);
        });
        Due.says(35, "of as good ones NONE, then the first: it;", () -> {
            StartedByAYawn x = Due.lake("5/1;5/1>a;5/1;5/1", "1");
            Due.is("nobody yawns", x.gaze(0, 5), -1);
            x.yawn(0, 0);
            Due.is("c, d alike", x.gaze(0, 5), 2);
            x.away(2);
            Due.is("c is AWAY", x.gaze(0, 5), 3);
            x.away(3);
            Due.is("both are AWAY", x.gaze(0, 5), -1);
            StartedByAYawn one = Due.lake("9/1");
            Due.is("no other", one.gaze(0, 300), -1);
        });
        Due.says(35, "the ROW: how many yawns.", () -> {
            StartedByAYawn x = Due.lake("5/1;5/1>a;5/1;5/1", "1");
            Due.told("nobody yawns", x, x.gaze(0, 5), -1, 0);
            x.yawn(0, 0);
            Due.told("b and c", x, x.gaze(0, 5), 2, 2);
            Due.told("not so soon", x, x.gaze(0, 1), -1, 0);
            Due.told("of b, a", x, x.gaze(1, 3), 0, 1);
            x.minute();
            Due.told("what b caught already", x, x.gaze(0, 5), -1, 1);
        });
    }

    private static void gazeRefused() {
        Due.says(35, "-2: no such FACE, another n.", () -> {
            StartedByAYawn x = Due.lake("5/1;5/1>a");
            x.gaze(0, 5);
            for (int n : new int[] {0, -1, 301, Integer.MIN_VALUE, Integer.MAX_VALUE}) {
                Due.none("gaze(0, " + n + ")", x, () -> x.gaze(0, n), -2);
            }
            Due.none("gaze(2, 5)", x, () -> x.gaze(2, 5), -2);
            Due.none("gaze(2, 0)", x, () -> x.gaze(2, 0), -2);
            for (int f : NO_FACE) {
                Due.none("gaze(" + f + ", 5)", x, () -> x.gaze(f, 5), -2);
            }
            x.yawn(0, 0);
            Due.told("1", x, x.gaze(0, 1), -1, 0);
            Due.told("300", x, x.gaze(0, 300), -1, 1);
        });
    }

    private static void rests() {
        Due.says(36, "Two parties: 0 wants THE START as soon, 1 as late as can be (none is the latest);", () -> {
            StartedByAYawn x = Due.lake("5/1");
            x.rests(1);
            Due.row("0: as soon as can be", x, 0, 0, -1, 0);
            x.rests(2);
            Due.row("1: as late as can be", x, 0, 0, 0, 40);
            x.away(0);
            Due.told("none", x, x.rests(20), 2, 1, -1, -1, -1);
        });
        Due.says(36, "each may have one FACE be 4 more TIRED (party 0; 9 at most) or 4 less (party 1; 0 at least) now (at first nobody: NONE);", () -> {
            StartedByAYawn x = Due.lake("4/1;0/1");
            Due.told("at first", x, x.rests(0), 0, 0, -1, -1, 50);
            Due.told("4 more", x, x.rests(1), 1, 0, 0, -1, 10);
            x.set(0, 0, 6);
            Due.told("9 at most", x, x.rests(1), 1, 0, 0, -1, 0);
            Due.told("of TIRED 9, 4 less", x, x.rests(2), 2, 0, 0, 0, 40);
            StartedByAYawn y = Due.lake("3/1");
            y.away(0);
            y.rests(20);
            y.away(0);
            Due.told("4 more, 4 less", y, y.rests(2), 2, 0, 0, 0, 60);
            StartedByAYawn z = Due.lake("9/1>b;3/1");
            z.yawn(1, 0);
            Due.told("b has DUE: now in any case", z, z.rests(20), 2, 1, -1, -1, 0);
            z.judges(1);
            z.away(1);
            z.away(1);
            z.yawn(1, 1);
            Due.told("a 4 less, who CATCHES one of b's, that is FALSE", z, z.rests(2), 2, 0, -1, 0, 1);
        });
        Due.says(36, "by turns, 0 first, each takes the FACE, or nobody, that is best for it, the other one's as it is", () -> {
            StartedByAYawn x = Due.lake("5/1;3/1");
            Due.told("0 takes a", x, x.rests(1), 1, 0, 0, -1, 0);
            Due.told("1 takes a, too", x, x.rests(2), 2, 0, 0, 0, 40);
            Due.told("0 takes b", x, x.rests(3), 3, 0, 1, 0, 20);
            Due.told("1 takes b, too", x, x.rests(4), 4, 0, 1, 1, 40);
            Due.told("0 takes a", x, x.rests(5), 5, 0, 0, 1, 0);
        });
    }

    private static void restsOnOne() {
        Due.says(36, "(both on one FACE: 4 more, put to 9, then 4 less);", () -> {
            StartedByAYawn x = Due.lake("8/1;0/1");
            Due.told("8, 9, 5", x, x.rests(2), 2, 0, 0, 0, 40);
            StartedByAYawn y = Due.lake("0/1");
            Due.told("0, 4, 0", y, y.rests(2), 2, 0, 0, 0, 90);
            StartedByAYawn z = Due.lake("5/1");
            Due.told("5, 9, 5", z, z.rests(2), 2, 0, 0, 0, 40);
        });
    }

    private static void restsTies() {
        Due.says(36, "of as good ones its own, then nobody, then the first;", () -> {
            StartedByAYawn x = Due.lake("5/1;5/1;5/1");
            Due.told("the first of three", x, x.rests(1), 1, 0, 0, -1, 0);
            StartedByAYawn now = Due.lake("9/1;9/1");
            Due.told("its own, that is nobody", now, now.rests(20), 2, 1, -1, -1, 0);
            StartedByAYawn own = Due.lake("5/3>b;8/3>bc;9/2>b");
            own.judges(5);
            own.yawn(1, 1);
            Due.told("1 takes c", own, own.rests(2), 2, 0, -1, 2, 2);
            Due.told("0 takes a", own, own.rests(3), 3, 0, 0, 2, 0);
            Due.told("1: its own, c, ahead of nobody", own, own.rests(4), 4, 0, 0, 2, 0);
            StartedByAYawn nobody = Due.lake("4/1>b;7/2>a", "t<y");
            nobody.judges(2);
            nobody.yawn(0, 1);
            Due.told("both on b", nobody, nobody.rests(2), 2, 0, 1, 1, 40);
            Due.told("0 takes a, from whom b catches one", nobody, nobody.rests(3), 3, 0, 0, 1, 2);
            Due.told("1: nobody, ahead of a", nobody, nobody.rests(4), 4, 0, 0, -1, 20);
        });
    }

    private static void restsTurns() {
        Due.says(36, "till two turns behind one another change nothing, m turns (0 .. 20) at most: how many turns;", () -> {
            StartedByAYawn own = Due.lake("5/3>b;8/3>bc;9/2>b");
            own.judges(5);
            own.yawn(1, 1);
            Due.asks("the first turn and the fourth do not count together", own, () -> own.rests(20), 5);
            Due.asks("5", own, () -> own.rests(5), 5);
            Due.asks("4", own, () -> own.rests(4), 4);
            StartedByAYawn one = Due.lake("5/1");
            Due.asks("two change, two do not", one, () -> one.rests(20), 4);
            StartedByAYawn two = Due.lake("5/1;3/1");
            for (int m = 0; m <= 20; m++) {
                Due.is("it never rests", two.rests(m), m);
            }
        });
        Due.says(36, "the ROW: 1 if it came to that, else 0; both FACES; after how many MINUTES THE START is then (NONE: none).", () -> {
            StartedByAYawn own = Due.lake("5/3>b;8/3>bc;9/2>b");
            own.judges(5);
            own.yawn(1, 1);
            Due.told("it did", own, own.rests(20), 5, 1, 0, 2, 0);
            Due.told("it did in the last turn", own, own.rests(5), 5, 1, 0, 2, 0);
            Due.told("not yet", own, own.rests(4), 4, 0, 0, 2, 0);
            StartedByAYawn two = Due.lake("5/1;3/1");
            Due.told("never", two, two.rests(20), 20, 0, 1, 1, 40);
            StartedByAYawn none = new StartedByAYawn();
            Due.told("no FACES", none, none.rests(4), 2, 1, -1, -1, -1);
            Due.told("no FACES, 1", none, none.rests(1), 1, 0, -1, -1, -1);
        });
        Due.says(36, "NONE: another m.", () -> {
            StartedByAYawn x = Due.lake("5/1;3/1");
            x.rests(1);
            for (int m : new int[] {-1, 21, Integer.MIN_VALUE, Integer.MAX_VALUE}) {
                Due.refused("rests(" + m + ")", x, () -> x.rests(m));
            }
        });
    }
}
