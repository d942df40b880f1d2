/** Promises 37 to 50: crews, yawns that were seen, a season, what is kept. */
public final class SeasonTest {
    private static final int[] NO_FACE = {-1, -2, 9, Integer.MAX_VALUE, Integer.MIN_VALUE};

    public static void main(String[] args) {
        crew();
        home();
        cost();
        costNot();
        best();
        bestNot();
        seen();
        forget();
        began();
        delays();
        fewest();
        season();
        seasonsDraws();
        seasonsRow();
        keep();
        again();
        count();
        row();
        Doc.quoted(37, Doc.LAST);
        Due.end();
    }

    private static void crew() {
        Due.says(37, "A CREW comes: READY 0 .. 600, HOLD 0 .. 9, LATE 0 .. 99: its number.", () -> {
            StartedByAYawn x = new StartedByAYawn();
            Due.is("the least of all", x.crew(0, 0, 0), 0);
            Due.is("the most of all", x.crew(600, 9, 99), 1);
            for (int k = 2; k < 5; k++) {
                Due.is("the next", x.crew(300, 5, 50), k);
            }
            Due.is("five", x.count(7), 5);
        });
        Due.says(37, "-2: 5 are there;", () -> {
            StartedByAYawn x = new StartedByAYawn();
            for (int k = 0; k < 5; k++) {
                x.crew(0, 0, 0);
            }
            Due.none("a sixth", x, () -> x.crew(600, 9, 99), -2);
            Due.is("five", x.count(7), 5);
            x.home();
            Due.is("there is room again", x.crew(0, 0, 0), 0);
        });
        Due.says(37, "NONE: others.", () -> {
            StartedByAYawn x = new StartedByAYawn();
            int[][] bad = {{-1, 0, 0}, {601, 0, 0}, {0, -1, 0}, {0, 10, 0}, {0, 0, -1}, {0, 0, 100}, {Integer.MAX_VALUE, 0, 0},
                {Integer.MIN_VALUE, 0, 0}, {0, Integer.MIN_VALUE, 0}, {0, 0, Integer.MAX_VALUE}};
            for (int times = 0; times < 2; times++) {
                for (int[] b : bad) {
                    Due.refused("crew(" + b[0] + ", " + b[1] + ", " + b[2] + ")", x, () -> x.crew(b[0], b[1], b[2]));
                }
                for (int k = 0; k < 5; k++) {
                    x.crew(0, 0, 0);
                }
            }
        });
    }

    private static void home() {
        Due.says(38, "All CREWS go home: how many there were.", () -> {
            StartedByAYawn x = Due.lake("5/1");
            Due.is("none", x.home(), 0);
            for (int k = 1; k <= 5; k++) {
                x.crew(10, 1, 1);
            }
            Due.is("five", x.home(), 5);
            Due.is("none are left", x.count(7), 0);
            Due.is("no CREW 0", x.cost(0), -1);
            Due.is("none", x.home(), 0);
            Due.is("from 0 again", x.crew(39, 2, 2), 0);
            Due.is("it is another", x.cost(0), 2);
        });
    }

    private static void cost() {
        Due.says(39, "What THE START as it will be costs a CREW (HOLD for each MINUTE from READY to it; LATE for each MINUTE from it to READY);", () -> {
            StartedByAYawn x = Due.lake("5/1");
            x.crew(30, 2, 5);
            x.crew(40, 2, 5);
            x.crew(50, 2, 5);
            x.crew(0, 9, 1);
            x.crew(600, 1, 99);
            int[] due = {20, 0, 50, 360, 560 * 99};
            for (int k = 0; k < 5; k++) {
                int crew = k;
                Due.asks("CREW " + k, x, () -> x.cost(crew), due[k]);
            }
            x.minutes(10);
            Due.is("START in 30", x.cost(0), 0);
            Due.is("START in 30, READY in 40", x.cost(1), 50);
            x.yawn(0, 0);
            Due.is("now", x.cost(0), 150);
            Due.is("now, READY now", x.cost(3), 0);
        });
        Due.says(39, "the ROW: 1 if it is READY in time, else 0.", () -> {
            StartedByAYawn x = Due.lake("5/1");
            x.crew(39, 2, 5);
            x.crew(40, 2, 5);
            x.crew(41, 2, 5);
            Due.told("ahead", x, x.cost(0), 2, 1);
            Due.told("just in time", x, x.cost(1), 0, 1);
            Due.told("late", x, x.cost(2), 5, 0);
        });
    }

    private static void costNot() {
        Due.says(39, "-2: there is no START;", () -> {
            StartedByAYawn x = Due.lake("5/1");
            x.crew(30, 2, 5);
            x.cost(0);
            x.away(0);
            Due.none("all are AWAY", x, () -> x.cost(0), -2);
            StartedByAYawn none = new StartedByAYawn();
            none.crew(0, 0, 0);
            Due.none("no FACES", none, () -> none.cost(0), -2);
        });
        Due.says(39, "NONE: none such.", () -> {
            StartedByAYawn x = Due.lake("5/1");
            x.ahead(0);
            Due.refused("no CREWS", x, () -> x.cost(0));
            x.crew(30, 2, 5);
            x.crew(30, 2, 5);
            for (int c : new int[] {2, 5, -1, Integer.MAX_VALUE, Integer.MIN_VALUE}) {
                Due.refused("cost(" + c + ")", x, () -> x.cost(c));
            }
        });
    }

    private static void best() {
        Due.says(40, "The READY (0 .. 299) with which a CREW's cost() is the least in all, of these ways: as it is, and for each FACE one in which it is 3 more TIRED now (9 at most);", () -> {
            StartedByAYawn x = Due.lake("5/1;3/1");
            x.crew(500, 1, 1);
            x.crew(500, 9, 0);
            x.crew(500, 1, 3);
            x.crew(500, 3, 1);
            Due.asks("in the middle of 40, 10, 30", x, () -> x.best(0), 30);
            Due.asks("late for nothing", x, () -> x.best(1), 10 + 30);
            Due.asks("LATE dearer", x, () -> x.best(2), 10);
            Due.asks("HOLD dearer", x, () -> x.best(3), 40);
            x.minutes(5);
            Due.asks("counted from now: 35, 5, 25", x, () -> x.best(0), 25);
            StartedByAYawn y = Due.lake("7/1");
            y.crew(0, 1, 0);
            Due.asks("9 at most: 20, 0", y, () -> y.best(0), 20);
            StartedByAYawn z = Due.lake("8/1");
            z.minutes(9);
            z.crew(0, 1, 0);
            Due.asks("1, 0: READY in 1", z, () -> z.best(0), 1);
        });
        Due.says(40, "ways without START do not count:", () -> {
            StartedByAYawn x = Due.lake("5/1;3/1");
            x.crew(0, 1, 1);
            x.away(1);
            Due.told("40, 10, 40", x, x.best(0), 40, 30, 3);
            x.away(0);
            Due.none("none has a START", x, () -> x.best(0), -2);
        });
        Due.says(40, "of as good ones the first: it;", () -> {
            StartedByAYawn x = Due.lake("5/1");
            x.crew(0, 1, 1);
            x.crew(0, 0, 9);
            x.crew(0, 0, 0);
            x.crew(0, 9, 0);
            Due.is("10 .. 40", x.best(0), 10);
            Due.is("0 .. 10", x.best(1), 0);
            Due.is("all", x.best(2), 0);
            Due.is("40 .. 299", x.best(3), 40);
        });
    }

    private static void bestNot() {
        Due.says(40, "the ROW: how much in all, how many ways count.", () -> {
            StartedByAYawn x = Due.lake("5/1;3/1");
            x.crew(0, 1, 1);
            x.crew(0, 0, 9);
            x.crew(0, 2, 3);
            Due.told("10 and 20 from 30", x, x.best(0), 30, 30, 3);
            Due.told("nothing", x, x.best(1), 0, 0, 3);
            Due.told("10 HOLD, 20 LATE", x, x.best(2), 30, 2 * 10 + 3 * 20, 3);
            StartedByAYawn nine = Due.lake("0/1;0/1;0/1;0/1;0/1;0/1;0/1;0/1;0/1");
            nine.crew(0, 1, 1);
            Due.told("ten ways", nine, nine.best(0), 60, 30, 10);
        });
        Due.says(40, "-2: none does;", () -> {
            StartedByAYawn x = Due.lake("5/1;3/1");
            x.crew(0, 1, 1);
            x.best(0);
            x.away(0);
            x.away(1);
            Due.none("all are AWAY", x, () -> x.best(0), -2);
            StartedByAYawn none = new StartedByAYawn();
            none.crew(0, 0, 0);
            Due.none("no FACES", none, () -> none.best(0), -2);
        });
        Due.says(40, "NONE: none such.", () -> {
            StartedByAYawn x = Due.lake("5/1;3/1");
            x.ahead(0);
            Due.refused("no CREWS", x, () -> x.best(0));
            x.crew(30, 2, 5);
            for (int c : new int[] {1, 5, -1, Integer.MAX_VALUE, Integer.MIN_VALUE}) {
                Due.refused("best(" + c + ")", x, () -> x.best(c));
            }
        });
    }

    private static void seen() {
        Due.says(41, "A FACE was seen to yawn, n MINUTES (0 .. 60) on from when it is asked for: how many were.", () -> {
            StartedByAYawn x = Due.lake("8/1;3/1");
            Due.is("one", x.seen(0, 10), 1);
            x.began();
            Due.row("it comes", x, 1);
            Due.is("two", x.seen(1, 60), 2);
            x.began();
            Due.row("both come, in the last MINUTE of all", x, 1);
            x.minute();
            x.began();
            Due.row("not when it is asked for later", x, 0);
            x.forget();
            Due.is("now", x.seen(0, 9), 1);
            x.began();
            Due.row("it comes", x, 1);
            Due.is("one that is AWAY", x.away(1) + x.seen(1, 0), 3);
        });
        Due.says(41, "Refused: others, 10.", () -> {
            StartedByAYawn x = Due.lake("5/1;5/2>a");
            int[][] bad = {{2, 0}, {0, -1}, {0, 61}, {0, Integer.MAX_VALUE}, {0, Integer.MIN_VALUE}};
            for (int[] b : bad) {
                Due.refused("seen(" + b[0] + ", " + b[1] + ")", x, () -> x.seen(b[0], b[1]));
            }
            for (int f : NO_FACE) {
                Due.refused("seen(" + f + ", 0)", x, () -> x.seen(f, 0));
            }
            for (int k = 1; k <= 10; k++) {
                Due.is("how many", x.seen(1, 60), k);
            }
            Due.refused("10", x, () -> x.seen(0, 0));
            Due.refused("the same once more", x, () -> x.seen(1, 60));
            Due.is("ten", x.count(9), 10);
        });
    }

    private static void forget() {
        Due.says(42, "They are forgotten: how many there were.", () -> {
            StartedByAYawn x = Due.lake("5/1;5/2>a");
            Due.is("none", x.forget(), 0);
            for (int k = 1; k <= 10; k++) {
                x.seen(1, 59);
            }
            x.began();
            Due.row("they do not come", x, 0);
            Due.is("ten", x.forget(), 10);
            Due.is("none are left", x.count(9), 0);
            x.began();
            Due.row("nothing was seen", x, 1);
            Due.is("none", x.forget(), 0);
            Due.is("from 1 again", x.seen(0, 0), 1);
        });
    }

    private static void began() {
        Due.says(43, "FACES (bits) each of which, yawning now, true, besides (not AWAY, without DUE), makes all that was seen come;", () -> {
            StartedByAYawn x = Due.lake("5/1;5/2>a;5/1>b;5/1", "1");
            Due.asks("nothing was seen: all", x, x::began, 15);
            x.seen(1, 2);
            Due.asks("a", x, x::began, 1);
            x.seen(2, 3);
            Due.asks("a makes both come", x, x::began, 1);
            x.seen(2, 4);
            Due.asks("not all three", x, x::began, 0);
            x.forget();
            x.seen(1, 2);
            x.yawn(0, 0);
            Due.asks("a has DUE; it comes besides, but not by b, who yawns now", x, x::began, 4 + 8);
            x.away(3);
            Due.asks("d is AWAY", x, x::began, 4);
            StartedByAYawn y = Due.lake("5/1;5/1>a", "x=0");
            y.seen(1, 1);
            Due.asks("true", y, y::began, 1);
            Due.rule(y, "x");
            Due.asks("not meant", y, y::began, 0);
            StartedByAYawn none = new StartedByAYawn();
            Due.asks("no FACES", none, none::began, 0);
            StartedByAYawn z = Due.lake("5/1;5/3>a", "1");
            z.yawn(0, 0);
            z.minute();
            z.seen(1, 0);
            Due.asks("b has DUE later", z, z::began, 0);
        });
        Due.says(43, "the ROW: 1 if it comes as it is, else 0.", () -> {
            StartedByAYawn x = Due.lake("5/1;5/2>a;5/1>b;5/1", "1");
            Due.told("nothing was seen", x, x.began(), 15, 1);
            x.seen(1, 2);
            Due.told("not as it is", x, x.began(), 1, 0);
            x.yawn(0, 0);
            Due.told("as it is", x, x.began(), 12, 1);
            StartedByAYawn y = Due.lake("3/1");
            y.seen(0, 60);
            Due.told("in MINUTE 60 on, not if it yawns now", y, y.began(), 0, 1);
            StartedByAYawn none = new StartedByAYawn();
            Due.told("no FACES", none, none.began(), 0, 1);
        });
    }

    private static void delays() {
        Due.says(44, "DELAYS (bits 1 .. 9) of a FACE, all else as it is, with which all that was seen comes.", () -> {
            StartedByAYawn x = Due.lake("5/1;5/2>a;5/1>b", "1");
            Due.asks("nothing was seen: all", x, () -> x.delays(0), 1022);
            x.yawn(0, 0);
            x.seen(1, 2);
            Due.asks("2", x, () -> x.delays(1), 4);
            Due.asks("any of c", x, () -> x.delays(2), 1022);
            x.seen(2, 9);
            Due.asks("7 of c", x, () -> x.delays(2), 128);
            Due.asks("none of b", x, () -> x.delays(1), 0);
            x.forget();
            x.seen(1, 1);
            Due.asks("1", x, () -> x.delays(1), 2);
            x.forget();
            x.seen(1, 9);
            Due.asks("9", x, () -> x.delays(1), 512);
            x.minute();
            Due.asks("its DUE stays", x, () -> x.delays(1), 0);
            x.away(2);
            x.forget();
            Due.asks("AWAY", x, () -> x.delays(2), 1022);
        });
        Due.says(44, "NONE: none such.", () -> {
            StartedByAYawn x = Due.lake("5/1;5/2>a;5/1>b", "1");
            x.ahead(0);
            Due.refused("delays(3)", x, () -> x.delays(3));
            for (int f : NO_FACE) {
                Due.refused("delays(" + f + ")", x, () -> x.delays(f));
            }
        });
    }

    private static void fewest() {
        Due.says(45, "The fewest FACES that yawn now, true, besides, so that all that was seen comes: how many;", () -> {
            StartedByAYawn x = Due.lake("5/1;5/2>a;5/1>b;5/1", "1");
            Due.asks("nothing was seen", x, x::fewest, 0);
            x.seen(1, 2);
            Due.asks("a", x, x::fewest, 1);
            x.seen(3, 0);
            Due.asks("a and d", x, x::fewest, 2);
            x.yawn(3, 1);
            Due.asks("a, for d will besides", x, x::fewest, 1);
            x.yawn(0, 1);
            Due.asks("none, for a will besides", x, x::fewest, 0);
            StartedByAYawn y = Due.lake("5/1;5/1>a", "x=0");
            y.seen(1, 1);
            Due.asks("true", y, y::fewest, 1);
            Due.rule(y, "n=2");
            Due.wall(y, "5/1;5/1>ac");
            y.forget();
            y.seen(3, 1);
            Due.asks("a and c, for d", y, y::fewest, 2);
            StartedByAYawn none = new StartedByAYawn();
            Due.asks("no FACES", none, none::fewest, 0);
        });
        Due.says(45, "the ROW: they (bits; of as few the least).", () -> {
            StartedByAYawn x = Due.lake("5/1;5/2>a;5/1>b;5/1", "1");
            Due.told("nothing was seen", x, x.fewest(), 0, 0);
            x.seen(1, 2);
            x.seen(3, 0);
            Due.told("a and d", x, x.fewest(), 2, 9);
            StartedByAYawn y = Due.lake("5/1;5/1;5/1>ab", "1");
            y.seen(2, 1);
            Due.told("a, not b", y, y.fewest(), 1, 1);
            y.away(0);
            Due.told("a is AWAY: b", y, y.fewest(), 1, 2);
            StartedByAYawn z = Due.lake("5/1;5/1;5/1;5/1>abc", "(j=2)+(n=2)");
            z.seen(3, 1);
            Due.told("c, not a and b", z, z.fewest(), 1, 4);
        });
        Due.says(45, "-2: none do.", () -> {
            StartedByAYawn x = Due.lake("5/1;5/2>a;5/1>b;5/1", "1");
            x.ahead(0);
            x.seen(3, 1);
            Due.none("d in 1", x, x::fewest, -2);
            x.forget();
            x.seen(1, 2);
            x.away(0);
            Due.none("a is AWAY", x, x::fewest, -2);
            x.away(0);
            x.yawn(1, 0);
            Due.none("b has DUE now", x, x::fewest, -2);
            StartedByAYawn y = Due.lake("5/1;5/3>a", "1");
            y.yawn(0, 0);
            y.minute();
            y.seen(1, 0);
            Due.none("b has DUE later", y, y::fewest, -2);
            StartedByAYawn z = Due.lake("5/3>b;5/1;5/1", "1");
            z.yawn(1, 0);
            z.minute();
            z.seen(0, 0);
            Due.none("a has DUE later, b and c do not help", z, z::fewest, -2);
            Due.wall(z, "5/3>c;5/1");
            z.forget();
            z.yawn(2, 0);
            z.minute();
            z.seen(3, 0);
            Due.none("d has DUE later, b, c and e do not help", z, z::fewest, -2);
        });
    }

    /** DRAWS of 10 from seed 1: 8, 6, 3, 3, 9, 5, 8, 7; from 3: 5, 7, 5, 0; from -1: 7, 9, 2, 6. */
    private static void season() {
        Due.says(46, "n RACES (1 .. 20), for each TIRED of all FACES drawn anew", () -> {
            StartedByAYawn x = Due.lake("0/1");
            Due.told("one: 8", x, x.season(1, 1), 1, 10, 10, 0, 1);
            Due.told("two: 8, 6", x, x.season(1, 2), 2, 10, 30, 0, 2);
            Due.told("four: 8, 6, 3, 3", x, x.season(1, 4), 4, 10, 60, 0, 4);
            Due.told("five: .. 9", x, x.season(1, 5), 5, 0, 60, 0, 5);
            Due.told("20", x, x.season(1, 20), 20, 0, 90, 0, 20);
            Due.wall(x, "0/1");
            Due.told("of two: a 8, b 6; a 3, b 3; a 9, b 5", x, x.season(1, 3), 3, 0, 60, 0, 3);
        });
        Due.says(46, "(by numbers, a DRAW of 10 each; NOW, DUE, who is AWAY as they are):", () -> {
            StartedByAYawn x = Due.lake("0/1;0/1");
            x.away(0);
            Due.told("a is AWAY, but drawn for: b 6, 3, 5", x, x.season(1, 3), 3, 30, 60, 1, 3);
            x.minutes(5);
            Due.told("from MINUTE 5 on", x, x.season(1, 1), 1, 25, 25, 1, 1);
            x.yawn(1, 0);
            Due.told("b has DUE now", x, x.season(1, 20), 20, 0, 0, 1, 20);
            x.judges(1);
            x.away(1);
            x.away(0);
            x.away(1);
            x.set(0, 2, 2);
            x.yawn(1, 1);
            Due.told("b has DUE now, FALSE: TIRED 6, then 5", x, x.season(0, 1), 1, 35, 35, 1, 1);
        });
        Due.says(46, "in how many there is a START;", () -> {
            StartedByAYawn x = Due.lake("0/1;0/1");
            Due.asks("in all", x, () -> x.season(5, 20), 20);
            x.away(0);
            x.away(1);
            Due.asks("in none", x, () -> x.season(5, 20), 0);
            StartedByAYawn none = new StartedByAYawn();
            Due.asks("no FACES", none, () -> none.season(7, 2), 0);
        });
        Due.says(46, "NONE: another n.", () -> {
            StartedByAYawn x = Due.lake("0/1");
            x.season(1, 1);
            for (int n : new int[] {0, -1, 21, Integer.MIN_VALUE, Integer.MAX_VALUE}) {
                Due.refused("season(1, " + n + ")", x, () -> x.season(1, n));
            }
        });
    }

    private static void seasonsDraws() {
        Due.says(46, "Nothing changes.", () -> {
            StartedByAYawn x = Due.lake("4/1>b;3/2>a", "t>y");
            x.judges(1);
            Due.hour(x, "ya;m3;fa");
            Due.asks("20", x, () -> x.season(9, 20), 20);
            Due.asks("20 the same", x, () -> x.season(9, 20), 20);
        });
        Due.says(46, "A DRAW of n: R = R times 1103515245 + 12345 (as ints; R is seed at first), (R without sign, by 65536) % n.", () -> {
            int[] seeds = {0, 1, 2, 3, -1, -2, Integer.MAX_VALUE, Integer.MIN_VALUE, 65536, 123456789};
            StartedByAYawn x = Due.lake("0/1;0/1");
            x.away(0);
            for (int seed : seeds) {
                java.math.BigInteger r = java.math.BigInteger.valueOf(seed);
                int soonest = 90;
                int latest = 0;
                for (int k = 1; k <= 8; k++) {
                    r = r.multiply(java.math.BigInteger.valueOf(1103515245)).add(java.math.BigInteger.valueOf(12345))
                        .mod(java.math.BigInteger.ONE.shiftLeft(32));
                    if (k % 2 == 0) {
                        int start = 90 - 10 * r.shiftRight(16).mod(java.math.BigInteger.TEN).intValue();
                        soonest = Math.min(soonest, start);
                        latest = Math.max(latest, start);
                        Due.told("from " + seed, x, x.season(seed, k / 2), k / 2, soonest, latest, 1, k / 2);
                    }
                }
            }
        });
    }

    private static void seasonsRow() {
        Due.says(46, "the ROW: the MINUTE of the soonest (NONE: none), of the latest, the FACE that starts the most (of equal ones the first; NONE), how many it starts.", () -> {
            StartedByAYawn x = Due.lake("0/1;0/1");
            Due.told("b 7, then a 5: of equal ones the first", x, x.season(3, 2), 2, 20, 40, 0, 1);
            Due.told("b 7 alone", x, x.season(3, 1), 1, 20, 20, 1, 1);
            Due.told("b 9, then b 6", x, x.season(-1, 2), 2, 0, 30, 1, 2);
            x.minutes(4);
            Due.told("counted from now", x, x.season(3, 2), 2, 16, 36, 0, 1);
            x.away(0);
            x.away(1);
            Due.told("none", x, x.season(3, 20), 0, -1, -1, -1, 0);
            StartedByAYawn none = new StartedByAYawn();
            Due.told("no FACES", none, none.season(3, 20), 0, -1, -1, -1, 0);
        });
    }

    private static void keep() {
        Due.says(47, "NOW, TIRED, how often, DUE, who is AWAY, THE BOOK are kept under a number 0 .. 1: true.", () -> {
            StartedByAYawn x = Due.lake("5/2>b;5/3>a;9/1");
            Due.hour(x, "fa;m4;ac;fa");
            Due.is("0", x.keep(0), true);
            x.again(0);
            String first = Due.stateOf(x);
            Due.hour(x, "m20;ab;ac;ya;ta7");
            Due.is("1", x.keep(1), true);
            x.again(1);
            String second = Due.stateOf(x);
            x.minutes(50);
            x.again(0);
            Due.is("all of 0", Due.stateOf(x).equals(first), true);
            x.again(1);
            Due.is("all of 1", Due.stateOf(x).equals(second), true);
            x.minutes(3);
            Due.is("1 anew", x.keep(1), true);
            int now = x.count(1);
            x.again(0);
            Due.is("0 stays", Due.stateOf(x).equals(first), true);
            x.again(1);
            Due.is("1 is another", x.count(1), now);
            Due.is("also without FACES", new StartedByAYawn().keep(1), true);
        });
        Due.says(47, "Refused: others.", () -> {
            StartedByAYawn x = Due.lake("5/2>b;5/3>a");
            for (int i : new int[] {2, -1, Integer.MAX_VALUE, Integer.MIN_VALUE}) {
                Due.refuses("keep(" + i + ")", x, () -> x.keep(i));
                Due.refuses("again(" + i + ")", x, () -> x.again(i));
            }
        });
    }

    private static void again() {
        Due.says(48, "They are as they were kept under a number.", () -> {
            StartedByAYawn x = Due.lake("5/2>b;5/3>a;4/1>ab", "1");
            x.yawn(0, 1);
            x.keep(0);
            x.again(0);
            String kept = Due.stateOf(x);
            Due.hour(x, "m20;ab;fc;ta9");
            Due.is("again", x.again(0), true);
            Due.is("all is as it was", Due.stateOf(x).equals(kept), true);
            x.minutes(9);
            Due.is("once more", x.again(0), true);
            Due.is("all is as it was", Due.stateOf(x).equals(kept), true);
            x.set(0, 0, 9);
            x.set(0, 1, 7);
            x.set(0, 2, 4);
            x.judges(5);
            x.again(0);
            Due.is("TIRED as kept", x.face(0, 0), 5);
            Due.is("DELAY stays", x.face(0, 1), 7);
            Due.is("whom it SEES stays", x.face(0, 2), 4);
            Due.is("JUDGES stay", x.count(2), 5);
            StartedByAYawn y = Due.lake("0/1");
            for (int k = 0; k < 7; k++) {
                Due.hour(y, "ya;m1;ya;m1;ya;m1;ya;m1;ya;m1;ya;m1;ya;m1;ya;m1;ya;m1;ya;m1");
            }
            y.keep(1);
            String book = Due.bookOf(y);
            Due.hour(y, "ya;m1;ya;m1");
            y.again(1);
            Due.is("a full BOOK", Due.bookOf(y).equals(book), true);
        });
        Due.says(48, "Refused: nothing kept, FACES came since.", () -> {
            StartedByAYawn x = Due.lake("5/2>b;5/3>a");
            x.minute();
            Due.refuses("nothing kept", x, () -> x.again(0));
            x.keep(0);
            Due.refuses("nothing kept under 1", x, () -> x.again(1));
            Due.wall(x, "");
            Due.wall(x, "x");
            Due.is("no FACES came", x.again(0), true);
            Due.wall(x, "1/1");
            x.minute();
            Due.refuses("FACES came", x, () -> x.again(0));
            x.keep(1);
            Due.is("kept since", x.again(1), true);
            Due.refuses("0 yet", x, () -> x.again(0));
            x.keep(0);
            Due.is("kept anew", x.again(0), true);
            StartedByAYawn none = new StartedByAYawn();
            Due.refuses("nothing kept, no FACES", none, () -> none.again(0));
            Due.refuses("nothing kept, no FACES", none, () -> none.again(1));
            none.keep(0);
            Due.is("none kept, none came", none.again(0), true);
            Due.wall(none, "1/1");
            Due.refuses("the first came", none, () -> none.again(0));
        });
    }

    private static void count() {
        Due.says(49, "What 0: FACES, 1: NOW, 2: JUDGES (bits), 3: who is AWAY (bits), 4: who has DUE (bits), 5: yawns in THE BOOK, 6: the sum of TIRED, 7: CREWS, 8: what can be undone, 9: what was seen, 10: numbers of the ROW, 11: signs of THE TEXT.", () -> {
            StartedByAYawn x = Due.lake("5/2>b;5/3>a;4/1");
            x.judges(3);
            x.away(2);
            x.yawn(0, 0);
            x.minute();
            x.crew(1, 1, 1);
            x.seen(0, 1);
            x.seen(0, 1);
            x.sign(0);
            int[] due = {3, 1, 3, 4, 2, 1, 13, 1, 3, 2, 2, 4};
            for (int what = 0; what < due.length; what++) {
                Due.is("count(" + what + ")", x.count(what), due[what]);
            }
            StartedByAYawn full = Due.lake("9/1;9/1;9/1;9/1;9/1;9/1;9/1;9/1;9/1");
            full.judges(511);
            Due.hour(full, "aa;ab;ac;ad;ae;af;ag;ah;ai");
            Due.hour(full, "aa;ab;ac;ad;ae;af;ag;ah;ai;ya;yb;yc;yd;ye;yf;yg;yh;yi");
            full.ahead(0);
            Due.is("all have DUE", full.count(4), 511);
            Due.is("all are JUDGES' places", full.count(2), 511);
            Due.is("the sum", full.count(6), 81);
            Due.is("nine numbers", full.count(10), 9);
            Due.hour(full, "m99;aa;ab;ac;ad;ae;af;ag;ah;ai");
            Due.is("60 at most", full.count(5), 60);
            Due.is("all are AWAY", full.count(3), 511);
        });
        Due.says(49, "NONE for another what.", () -> {
            StartedByAYawn x = Due.lake("5/2>b;5/3>a");
            x.minute();
            for (int what : new int[] {-1, 12, Integer.MAX_VALUE, Integer.MIN_VALUE}) {
                Due.refused("count(" + what + ")", x, () -> x.count(what));
            }
            Due.is("NONE", StartedByAYawn.NONE, -1);
        });
    }

    private static void row() {
        Due.says(50, "Number i of the ROW.", () -> {
            StartedByAYawn x = Due.lake("0/1;1/1;1/1");
            x.ahead(91);
            int[] due = {1, 2, 2};
            for (int i = 0; i < 3; i++) {
                Due.is("row(" + i + ")", x.row(i), due[i]);
            }
            Due.is("three", x.count(10), 3);
            x.catchers(0, 0);
            Due.is("row(0)", x.row(0), 0);
            Due.is("one", x.count(10), 1);
        });
        Due.says(50, "NoSuchElementException: none such.", () -> {
            StartedByAYawn x = Due.lake("0/1;1/1;1/1");
            Due.noSuch("row(0) of none", () -> x.row(0));
            x.ahead(91);
            for (int i : new int[] {3, -1, 16, Integer.MAX_VALUE, Integer.MIN_VALUE}) {
                Due.noSuch("row(" + i + ") of three", () -> x.row(i));
            }
            x.catchers(0, 0);
            Due.noSuch("row(1) of one", () -> x.row(1));
            x.path(0, 0);
            Due.noSuch("row(0) of none again", () -> x.row(0));
        });
    }
}
