/** Promises 20 to 29: minutes to come. */
public final class ToComeTest {
    private static final int[] NO_FACE = {-1, -2, 9, Integer.MAX_VALUE, Integer.MIN_VALUE};

    public static void main(String[] args) {
        start();
        ahead();
        watch();
        when();
        spreads();
        spreadsRefused();
        dies();
        diesNot();
        everlasting();
        cuts();
        cutsNot();
        reach();
        path();
        pathsRow();
        Doc.quoted(20, 29);
        Due.end();
    }

    private static void start() {
        Due.says(20, "THE START: after how many MINUTES (0 ..);", () -> {
            StartedByAYawn x = Due.lake("5/2>b;5/3>a");
            Due.asks("TIRED 9", x, x::start, 40);
            x.minutes(15);
            Due.is("counted from now", x.start(), 25);
            x.judges(2);
            x.yawn(0, 1);
            Due.is("behind a FALSE one, 3 later", x.start(), 3);
            x.yawn(1, 0);
            Due.is("now", x.start(), 0);
            StartedByAYawn y = Due.lake("0/1");
            Due.is("the latest", y.start(), 90);
        });
        Due.says(20, "the ROW: the FACE (of several in a MINUTE the first that is not FALSE), how many FALSE yawns ahead of it.", () -> {
            StartedByAYawn x = Due.lake("5/2>bc;5/3>a;5/1;9/1");
            Due.told("d alone", x, x.start(), 0, 3, 0);
            x.judges(1);
            x.yawn(1, 1);
            x.yawn(2, 1);
            Due.told("d behind two FALSE ones", x, x.start(), 0, 3, 2);
            x.yawn(0, 1);
            Due.told("a is not seen", x, x.start(), 0, 0, 0);
            x.away(0);
            x.away(3);
            Due.told("later ones, TIRED 9", x, x.start(), 50, 1, 2);
            StartedByAYawn y = Due.lake("9/1;5/1>b;5/1>c;9/1");
            y.judges(2 + 4);
            y.yawn(2, 1);
            Due.told("a FALSE one behind it does not count", y, y.start(), 0, 0, 0);
        });
        Due.says(20, "-2: none.", () -> {
            StartedByAYawn x = Due.lake("9/2;8/3");
            x.start();
            x.away(0);
            x.away(1);
            Due.none("all are AWAY", x, x::start, -2);
            StartedByAYawn none = new StartedByAYawn();
            Due.none("no FACES", none, none::start, -2);
        });
    }

    private static void ahead() {
        Due.says(21, "How many yawns in the next n MINUTES (0 .. 300);", () -> {
            StartedByAYawn x = Due.lake("0/1;1/1");
            Due.asks("0", x, () -> x.ahead(0), 0);
            Due.asks("80", x, () -> x.ahead(80), 0);
            Due.asks("81", x, () -> x.ahead(81), 1);
            Due.asks("91", x, () -> x.ahead(91), 3);
            Due.asks("300", x, () -> x.ahead(300), 43);
            x.yawn(0, 1);
            Due.asks("1, a meant one", x, () -> x.ahead(1), 1);
            Due.is("no FACES", new StartedByAYawn().ahead(300), 0);
        });
        Due.says(21, "the ROW: by FACES how many.", () -> {
            StartedByAYawn x = Due.lake("0/1;1/1;1/1");
            x.away(2);
            Due.told("300", x, x.ahead(300), 43, 21, 22, 0);
            Due.told("0", x, x.ahead(0), 0, 0, 0, 0);
            StartedByAYawn nine = Due.lake("0/1;0/1;0/1;0/1;0/1;0/1;0/1;0/1;0/1");
            Due.told("nine", nine, nine.ahead(91), 9, 1, 1, 1, 1, 1, 1, 1, 1, 1);
            StartedByAYawn none = new StartedByAYawn();
            none.minute();
            Due.told("no FACES: no numbers", none, none.ahead(5), 0);
        });
        Due.says(21, "NONE: another n.", () -> {
            StartedByAYawn x = Due.lake("0/1;1/1");
            x.ahead(91);
            for (int n : new int[] {-1, 301, Integer.MIN_VALUE, Integer.MAX_VALUE}) {
                Due.refused("ahead(" + n + ")", x, () -> x.ahead(n));
            }
        });
    }

    private static void watch() {
        Due.says(22, "The FACE that yawns the most often in the next n MINUTES (0 .. 300); of equal ones the first: it;", () -> {
            StartedByAYawn x = Due.lake("0/1;1/1;1/1");
            Due.asks("of equal ones", x, () -> x.watch(300), 1);
            Due.asks("81", x, () -> x.watch(81), 1);
            x.yawn(2, 0);
            Due.asks("c alone", x, () -> x.watch(80), 2);
            Due.asks("b and c, twice each", x, () -> x.watch(91), 1);
            Due.asks("1", x, () -> x.watch(1), 2);
        });
        Due.says(22, "the ROW: how often, in how many of these MINUTES nobody yawns.", () -> {
            StartedByAYawn x = Due.lake("0/1;1/1;1/1");
            x.watch(300);
            Due.row("300", x, 22, 300 - 22);
            x.watch(81);
            Due.row("81", x, 1, 80);
            x.yawn(0, 0);
            x.watch(1);
            Due.row("none of one", x, 1, 0);
        });
        Due.says(22, "-2: none yawns;", () -> {
            StartedByAYawn x = Due.lake("0/1;1/1");
            x.ahead(1);
            Due.none("80", x, () -> x.watch(80), -2);
            Due.none("0", x, () -> x.watch(0), -2);
            StartedByAYawn none = new StartedByAYawn();
            Due.none("no FACES", none, () -> none.watch(300), -2);
        });
        Due.says(22, "NONE: another n.", () -> {
            StartedByAYawn x = Due.lake("9/1;1/1");
            x.watch(1);
            for (int n : new int[] {-1, 301, Integer.MIN_VALUE, Integer.MAX_VALUE}) {
                Due.refused("watch(" + n + ")", x, () -> x.watch(n));
            }
        });
    }

    private static void when() {
        Due.says(23, "After how many MINUTES (0 ..) a FACE yawns first;", () -> {
            StartedByAYawn x = Due.lake("5/2>b;5/3>a;0/1");
            Due.asks("TIRED 9", x, () -> x.when(0), 40);
            Due.asks("late", x, () -> x.when(2), 90);
            x.minutes(11);
            Due.is("counted from now", x.when(0), 29);
            x.yawn(0, 0);
            Due.is("now", x.when(0), 0);
            Due.is("by a", x.when(1), 3);
        });
        Due.says(23, "the ROW: its CAUSE then (NONE).", () -> {
            StartedByAYawn x = Due.lake("5/2>b;5/3>a");
            x.when(0);
            Due.row("TIRED 9", x, -1);
            x.yawn(0, 0);
            x.when(1);
            Due.row("by a", x, 0);
            x.when(0);
            Due.row("the first one, not what it catches later", x, -1);
            x.minute();
            x.when(0);
            Due.row("by b", x, 1);
        });
        Due.says(23, "-2: not in these;", () -> {
            StartedByAYawn x = Due.lake("5/2>b;9/3>a");
            x.when(0);
            x.away(1);
            Due.none("AWAY", x, () -> x.when(1), -2);
        });
        Due.says(23, "NONE: none such.", () -> {
            StartedByAYawn x = Due.lake("5/2>b;5/3>a");
            x.when(0);
            Due.refused("when(2)", x, () -> x.when(2));
            for (int f : NO_FACE) {
                Due.refused("when(" + f + ")", x, () -> x.when(f));
            }
        });
    }

    private static void spreads() {
        Due.says(24, "If a FACE (not AWAY, without DUE) yawned now, true:", () -> {
            StartedByAYawn x = Due.lake("5/1;5/1>a", "x=0");
            Due.asks("true", x, () -> x.spreads(0, 2), 3);
            Due.rule(x, "x");
            Due.asks("not meant", x, () -> x.spreads(0, 2), 1);
            Due.rule(x, "m=5");
            x.minutes(5);
            Due.asks("now", x, () -> x.spreads(0, 2), 3);
        });
        Due.says(24, "who yawns in the next n MINUTES (1 .. 300; bits), that does not else;", () -> {
            StartedByAYawn x = Due.lake("5/1;5/1>a;5/1>b", "1");
            int[] bits = {1, 3, 7, 7};
            for (int n = 1; n <= 4; n++) {
                Due.is("in " + n, x.spreads(0, n), bits[n - 1]);
            }
            Due.is("all yawn else, too", x.spreads(0, 300), 0);
            x.yawn(0, 1);
            Due.is("b does not else in 1", x.spreads(1, 1), 2);
            Due.is("c does not else in 2", x.spreads(1, 2), 4);
            Due.is("b and c do else in 3", x.spreads(1, 3), 0);
            StartedByAYawn y = Due.lake("5/1");
            Due.is("n 40", y.spreads(0, 40), 1);
            Due.is("n 41", y.spreads(0, 41), 0);
        });
        Due.says(24, "the ROW: how many yawns more (may be below 0).", () -> {
            StartedByAYawn x = Due.lake("5/1;5/1>a;5/1>b", "1");
            for (int n = 1; n <= 4; n++) {
                x.spreads(0, n);
                Due.row("in " + n, x, Math.min(n, 3));
            }
            StartedByAYawn y = Due.lake("0/1;8/9>a;0/1>b;0/1>b", "(m=10)+(i=1)");
            Due.told("fewer", y, y.spreads(0, 12), 1, -1);
            StartedByAYawn z = Due.lake("9/1");
            Due.told("it yawns else, too", z, z.spreads(0, 5), 0, 0);
        });
    }

    private static void spreadsRefused() {
        Due.says(24, "-2: it is AWAY, has DUE;", () -> {
            StartedByAYawn x = Due.lake("5/1;5/2>a;5/1", "1");
            x.spreads(0, 2);
            x.yawn(0, 1);
            Due.none("DUE now", x, () -> x.spreads(0, 5), -2);
            x.minute();
            Due.none("DUE later", x, () -> x.spreads(1, 5), -2);
            x.away(2);
            Due.none("AWAY", x, () -> x.spreads(2, 5), -2);
        });
        Due.says(24, "NONE: others.", () -> {
            StartedByAYawn x = Due.lake("5/1;5/1>a;5/1>b", "1");
            x.spreads(0, 2);
            x.yawn(1, 0);
            x.away(2);
            for (int f = 0; f < 3; f++) {
                int face = f;
                for (int n : new int[] {0, -1, 301, Integer.MIN_VALUE, Integer.MAX_VALUE}) {
                    Due.refused("spreads(" + f + ", " + n + ")", x, () -> x.spreads(face, n));
                }
            }
            Due.refused("spreads(3, 5)", x, () -> x.spreads(3, 5));
            for (int f : NO_FACE) {
                Due.refused("spreads(" + f + ", 5)", x, () -> x.spreads(f, 5));
            }
            Due.is("1", x.spreads(0, 1), 1);
        });
    }

    private static void dies() {
        String wall = "5/1;5/2>a;5/3>b;4/1>e;4/1>d";
        Due.says(25, "TIREDNESS left aside (each MINUTE all have the TIRED they have now, nobody yawns by (1)):", () -> {
            StartedByAYawn x = Due.lake("4/1>b;4/1>a;9/1>d;8/1>c", "t=4");
            Due.is("no less by yawns, no more by (4)", x.dies(0), -2);
            Due.is("c alone, TIRED 9", x.dies(2), 1);
            Due.rule(x, "y=4");
            Due.is("nor of that one", x.dies(0), -2);
            Due.rule(x, "t=9");
            Due.is("c does not yawn by (1), but CATCHES one", x.dies(3), 2);
            Due.rule(x, "(t=4)*(k<5)");
            Due.is("how often counts", x.dies(0), 10);
            Due.rule(x, "(t=4)*(m<6)");
            Due.is("the MINUTE counts", x.dies(0), 7);
        });
        Due.says(25, "if a FACE alone yawned now, true, all others having no DUE:", () -> {
            StartedByAYawn x = Due.lake(wall, "1");
            x.yawn(0, 0);
            x.yawn(3, 0);
            Due.asks("all others having no DUE", x, () -> x.dies(2), 1);
            Due.asks("it has DUE now", x, () -> x.dies(0), 6);
            x.minute();
            Due.asks("a again", x, () -> x.dies(0), 6);
            Due.asks("b has DUE later, but yawned now", x, () -> x.dies(1), 4);
            Due.rule(x, "x");
            Due.is("true", x.dies(3), 1);
            Due.rule(x, "n<2");
            Due.is("alone", x.dies(3), -2);
            Due.rule(x, "m=1");
            Due.is("now", x.dies(3), 2);
        });
        Due.says(25, "after how many MINUTES nobody has DUE any more.", () -> {
            StartedByAYawn x = Due.lake(wall, "1");
            Due.is("nobody SEES c", x.dies(2), 1);
            Due.is("b, c", x.dies(1), 4);
            Due.is("a, b, c", x.dies(0), 6);
            StartedByAYawn y = Due.lake("5/1;5/9>a;5/1>a;5/1>c", "1");
            Due.is("the longer way", y.dies(0), 10);
        });
    }

    private static void diesNot() {
        Due.says(25, "-2: not within 300;", () -> {
            StartedByAYawn x = Due.lake("4/1>b;4/1>a", "m<299");
            x.ahead(1);
            Due.is("300", x.dies(0), 300);
            Due.rule(x, "m<300");
            Due.none("301", x, () -> x.dies(0), -2);
            x.minutes(10);
            Due.rule(x, "m<309");
            Due.is("300 from now", x.dies(0), 300);
            Due.rule(x, "m<310");
            Due.none("301 from now", x, () -> x.dies(0), -2);
            Due.rule(x, "1");
            Due.none("never", x, () -> x.dies(0), -2);
        });
        Due.says(25, "-3: it is AWAY;", () -> {
            StartedByAYawn x = Due.lake("4/1>b;4/1>a", "1");
            x.ahead(1);
            x.away(0);
            Due.none("a is AWAY", x, () -> x.dies(0), -3);
            Due.is("b alone", x.dies(1), 1);
        });
        Due.says(25, "NONE: none such.", () -> {
            StartedByAYawn x = Due.lake("4/1>b;4/1>a", "1");
            x.ahead(1);
            Due.refused("dies(2)", x, () -> x.dies(2));
            for (int f : NO_FACE) {
                Due.refused("dies(" + f + ")", x, () -> x.dies(f));
            }
        });
    }

    private static void everlasting() {
        Due.says(26, "FACES (bits) from which it so does not die within 300 MINUTES.", () -> {
            StartedByAYawn x = Due.lake("5/1;5/2>a;5/3>b;4/1>e;4/1>d", "1");
            Due.asks("d, e", x, x::everlasting, 24);
            x.set(3, 2, 17);
            Due.asks("a, d, e", x, x::everlasting, 25);
            Due.rule(x, "m<299");
            Due.is("all die after 300", x.everlasting(), 0);
            Due.rule(x, "m<300");
            Due.is("they die after 301", x.everlasting(), 25);
            Due.rule(x, "t=4");
            Due.is("TIREDNESS left aside", x.everlasting(), 25);
            x.away(4);
            Due.asks("e is AWAY", x, x::everlasting, 0);
            StartedByAYawn none = new StartedByAYawn();
            Due.asks("no FACES", none, none::everlasting, 0);
        });
    }

    private static void cuts() {
        Due.says(27, "The fewest FACES (others than it) to be AWAY so that from a FACE it dies(): how many;", () -> {
            StartedByAYawn x = Due.lake("5/1>c;5/2>a;5/3>b;4/1>e;4/1>d;1/1>a", "1");
            Due.asks("one of b, c", x, () -> x.cuts(0), 1);
            Due.asks("e", x, () -> x.cuts(3), 1);
            Due.asks("none", x, () -> x.cuts(5), 0);
            x.away(3);
            Due.asks("d is AWAY already", x, () -> x.cuts(4), 0);
            StartedByAYawn y = Due.lake("1/1>bc;1/1>a;1/1>a", "1");
            Due.asks("both others", y, () -> y.cuts(0), 2);
            Due.asks("a, not b itself", y, () -> y.cuts(1), 1);
            y.yawn(1, 0);
            y.yawn(2, 0);
            Due.asks("all others having no DUE", y, () -> y.cuts(1), 1);
        });
        Due.says(27, "the ROW: they (bits; of as few the least), after how many MINUTES.", () -> {
            StartedByAYawn x = Due.lake("5/1>c;5/2>a;5/3>b;4/1>e;4/1>d;1/1>a", "1");
            Due.told("b, not c; f yawns yet", x, x.cuts(0), 1, 2, 2);
            Due.told("e", x, x.cuts(3), 1, 16, 1);
            Due.told("none", x, x.cuts(5), 0, 0, 1);
            StartedByAYawn y = Due.lake("1/1>bc;1/1>a;1/1>a", "1");
            Due.told("both others", y, y.cuts(0), 2, 6, 1);
            StartedByAYawn z = Due.lake("1/1>d;1/1>a;1/1>a;1/1>bc", "1");
            Due.told("one of a higher number, not two", z, z.cuts(0), 1, 8, 2);
            StartedByAYawn w = Due.lake("1/1>b;1/1>a", "m<300");
            Due.told("one", w, w.cuts(0), 1, 2, 1);
            Due.rule(w, "m<299");
            Due.told("none, after 300", w, w.cuts(0), 0, 0, 300);
        });
    }

    private static void cutsNot() {
        Due.says(27, "-2: it does not even so;", () -> {
            StartedByAYawn x = Due.lake("1/1>bcdefghi;1/1>acdefghi;1/1>abdefghi;1/1>abcefghi;1/1>abcdfghi", "1");
            Due.wall(x, "1/1>abcdeghi;1/1>abcdefhi;1/1>abcdefgi;1/1>abcdefgh");
            Due.told("one alone dies, so it is never -2: all eight", x, x.cuts(0), 8, 510, 1);
            Due.told("all eight others of i", x, x.cuts(8), 8, 255, 1);
        });
        Due.says(27, "-3, NONE: as dies().", () -> {
            StartedByAYawn x = Due.lake("1/1>b;1/1>a", "1");
            x.cuts(0);
            x.away(1);
            Due.none("AWAY", x, () -> x.cuts(1), -3);
            Due.refused("cuts(2)", x, () -> x.cuts(2));
            for (int f : NO_FACE) {
                Due.refused("cuts(" + f + ")", x, () -> x.cuts(f));
            }
        });
    }

    private static void reach() {
        Due.says(28, "FACES (bits) that can ever CATCH one that a FACE began, by whom they SEE alone", () -> {
            StartedByAYawn x = Due.lake("5/1>c;5/2>a;5/3>b;4/1>ac;4/1>e");
            Due.asks("of a: b, c, d, not a itself", x, () -> x.reach(0), 14);
            Due.asks("of c: a, b, d", x, () -> x.reach(2), 11);
            Due.asks("of d: nobody", x, () -> x.reach(3), 0);
            Due.asks("of e, that SEES itself: nobody", x, () -> x.reach(4), 0);
        });
        Due.says(28, "(whatever THE RULE; nobody that is AWAY);", () -> {
            StartedByAYawn x = Due.lake("5/1>c;5/2>a;5/3>b;4/1>ac", "0");
            x.yawn(3, 0);
            Due.is("rule 0, and d has DUE", x.reach(0), 14);
            x.away(1);
            Due.told("b is AWAY: c SEES nobody else", x, x.reach(0), 8, 1);
            Due.told("of b, that is AWAY", x, x.reach(1), 0, 0);
            x.away(3);
            Due.told("d, too", x, x.reach(0), 0, 0);
        });
        Due.says(28, "the ROW: the most FACES one behind the other that it takes to one of them.", () -> {
            StartedByAYawn x = Due.lake("5/1>c;5/2>a;5/3>b;4/1>ac;4/1");
            Due.told("b, c", x, x.reach(0), 14, 2);
            Due.told("c, a", x, x.reach(1), 13, 2);
            Due.told("nobody", x, x.reach(4), 0, 0);
            StartedByAYawn y = Due.lake("5/1>i;5/1>a;5/1>b;5/1>c;5/1>d;5/1>e;5/1>f;5/1>g;5/1>h");
            Due.told("eight in a ring", y, y.reach(4), 511 - 16, 8);
            StartedByAYawn z = Due.lake("5/1;5/1>a;5/1>b;5/1>abc");
            Due.told("d by the shortest way", z, z.reach(0), 14, 2);
        });
        Due.says(28, "NONE: none such.", () -> {
            StartedByAYawn x = Due.lake("5/1>b;5/2>a");
            x.reach(0);
            Due.refused("reach(2)", x, () -> x.reach(2));
            for (int f : NO_FACE) {
                Due.refused("reach(" + f + ")", x, () -> x.reach(f));
            }
        });
    }

    private static void path() {
        Due.says(29, "The fewest MINUTES in which one can come from a FACE to another one, each CATCHING it (whatever THE RULE; nobody that is AWAY) by DELAY from one it SEES:", () -> {
            StartedByAYawn x = Due.lake("1/9;1/2>a;1/2>a;1/1>bc;1/6>ad;1/1", "0");
            Due.asks("to d by b or c", x, () -> x.path(0, 3), 3);
            Due.asks("to e at once", x, () -> x.path(0, 4), 6);
            x.set(4, 2, 8);
            Due.is("to e by d", x.path(0, 4), 9);
            x.set(1, 1, 3);
            Due.is("by c", x.path(0, 4), 9);
            x.away(2);
            Due.is("c is AWAY", x.path(0, 4), 10);
            x.yawn(1, 0);
            Due.is("b has DUE", x.path(0, 4), 10);
            StartedByAYawn y = Due.lake("1/9>i;1/9>a;1/9>b;1/9>c;1/9>d;1/9>e;1/9>f;1/9>g;1/9>h");
            Due.told("eight of 9", y, y.path(3, 2), 72, 4, 5, 6, 7, 8, 0, 1, 2);
            StartedByAYawn z = Due.lake("1/1;1/9>a;1/1>a;1/1>c;1/1>bd");
            Due.told("more FACES, fewer MINUTES", z, z.path(0, 4), 3, 2, 3, 4);
        });
        Due.says(29, "how many (0: the same FACE);", () -> {
            StartedByAYawn x = Due.lake("1/9>b;1/2>a");
            x.ahead(1);
            Due.told("a", x, x.path(0, 0), 0);
            Due.told("b", x, x.path(1, 1), 0);
        });
        Due.says(29, "-2: by none;", () -> {
            StartedByAYawn x = Due.lake("1/9;1/2>a;1/2>b;1/1>d");
            x.path(0, 1);
            Due.none("not back", x, () -> x.path(1, 0), -2);
            Due.none("d SEES but itself", x, () -> x.path(0, 3), -2);
            x.away(1);
            Due.none("b is AWAY", x, () -> x.path(0, 2), -2);
        });
        Due.says(29, "NONE: none such, or AWAY.", () -> {
            StartedByAYawn x = Due.lake("1/9;1/2>a;1/2>b");
            x.path(0, 1);
            x.away(2);
            Due.refused("to one AWAY", x, () -> x.path(0, 2));
            Due.refused("from one AWAY", x, () -> x.path(2, 0));
            Due.refused("one AWAY alone", x, () -> x.path(2, 2));
            Due.refused("path(0, 3)", x, () -> x.path(0, 3));
            Due.refused("path(3, 3)", x, () -> x.path(3, 3));
            for (int f : NO_FACE) {
                Due.refused("path(0, " + f + ")", x, () -> x.path(0, f));
                Due.refused("path(" + f + ", 0)", x, () -> x.path(f, 0));
                Due.refused("path(" + f + ", " + f + ")", x, () -> x.path(f, f));
            }
        });
    }

    private static void pathsRow() {
        Due.says(29, "the ROW: FACES behind the first one, with the last: of as few MINUTES the least row.", () -> {
            StartedByAYawn x = Due.lake("1/9;1/2>a;1/2>a;1/1>bc;1/6>ad;1/1", "0");
            Due.told("by b, not c", x, x.path(0, 3), 3, 1, 3);
            Due.told("the last alone", x, x.path(0, 4), 6, 4);
            x.set(1, 1, 3);
            Due.told("by c, for fewer MINUTES", x, x.path(0, 3), 3, 2, 3);
            StartedByAYawn z = Due.lake("1/4>b;1/1;1/3>a;1/1>c", "0");
            Due.told("through a", z, z.path(1, 3), 8, 0, 2, 3);
            Due.told("to a", z, z.path(1, 0), 4, 0);
            StartedByAYawn y = Due.lake("1/1;1/1>ac;1/1>a;1/2>a;1/1>bd", "0");
            Due.told("b, e", y, y.path(0, 4), 2, 1, 4);
            StartedByAYawn w = Due.lake("1/1;1/1>a;1/1>b;1/2>a;1/1>cd", "0");
            Due.told("b, c, e is less than d, e", w, w.path(0, 4), 3, 1, 2, 4);
            StartedByAYawn v = Due.lake("1/1;1/4>a;1/3>a", "0");
            Due.told("not b, from whom nobody CATCHES one", v, v.path(0, 2), 3, 2);
            StartedByAYawn u = Due.lake("1/1;1/1;1/1>a;1/1>bc", "0");
            Due.told("not b, that SEES nobody", u, u.path(0, 3), 2, 2, 3);
        });
    }
}
