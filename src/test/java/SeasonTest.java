/** Promises 37 to 50: crews, yawns that were seen, a season, what is kept. */
public final class SeasonTest {
    public static void main(String[] args) {
        crew();
        cost();
        best();
        seen();
        began();
        delays();
        fewest();
        season();
        keep();
        count();
        row();
        Due.end();
    }

    private static void crew() {
        StartedByAYawn x = new StartedByAYawn();
        int[][] refused = {{-1, 0, 0}, {601, 0, 0}, {0, -1, 0}, {0, 10, 0}, {0, 0, -1}, {0, 0, 100}};
        for (int[] r : refused) {
            Due.is("crew(" + r[0] + ", " + r[1] + ", " + r[2] + ")", x.crew(r[0], r[1], r[2]), -1);
        }
        Due.is("home: none", x.home(), 0);
        for (int k = 0; k < 5; k++) {
            Due.is("crew: number", x.crew(600, 9, 99), k);
        }
        Due.is("crew: a sixth", x.crew(0, 0, 0), -2);
        Due.is("crew: a sixth, refused", x.crew(601, 0, 0), -1);
        Due.is("crew: five", x.count(7), 5);
        Due.is("home: five", x.home(), 5);
        Due.is("home: none are left", x.count(7), 0);
        Due.is("crew: from 0 again", x.crew(0, 0, 0), 0);
    }

    private static void cost() {
        StartedByAYawn x = Due.lake("5/1");
        Due.is("cost: none such", x.cost(0), -1);
        x.crew(30, 2, 5);
        x.crew(40, 2, 5);
        x.crew(50, 2, 5);
        Due.is("cost: holds its oars", x.cost(0), 20);
        Due.row("cost: in time", x, 1);
        Due.is("cost: just so", x.cost(1), 0);
        Due.row("cost: just in time", x, 1);
        Due.is("cost: late", x.cost(2), 50);
        Due.row("cost: late", x, 0);
        Due.is("cost: none such, 3", x.cost(3), -1);
        Due.is("cost: none such, -1", x.cost(-1), -1);
        x.minutes(10);
        Due.is("cost: counted from when it is asked", x.cost(0), 0);
        x.away(0);
        Due.is("cost: no START", x.cost(0), -2);
        Due.is("cost: no START, none such", x.cost(5), -1);
        Due.row("cost: the ROW stays", x, 1);
    }

    private static void best() {
        StartedByAYawn x = Due.lake("5/1;3/1");
        x.crew(0, 1, 1);
        x.crew(0, 0, 9);
        x.crew(0, 9, 0);
        Due.is("best: in the middle of 10, 30, 40", x.best(0), 30);
        Due.row("best: in the middle", x, 30, 3);
        Due.is("best: held for nothing", x.best(1), 0);
        Due.row("best: held for nothing", x, 0, 3);
        Due.is("best: late for nothing", x.best(2), 40);
        Due.row("best: late for nothing", x, 0, 3);
        Due.is("best: none such", x.best(3), -1);
        Due.is("best: none such, -1", x.best(-1), -1);
        x.away(0);
        x.away(1);
        Due.is("best: no way has a START", x.best(0), -2);
        Due.row("best: the ROW stays", x, 0, 3);
        StartedByAYawn z = Due.lake("5/1");
        z.minutes(9);
        z.crew(0, 1, 0);
        z.crew(0, 1, 9);
        z.sheet(2, 1, 8, 0);
        Due.is("best: to be READY in MINUTE 1", z.best(0), 1);
        Due.row("best: to be READY in MINUTE 1", z, 0, 2);
        Due.is("best: to be READY at once", z.best(1), 0);
        Due.row("best: to be READY at once", z, 1, 2);
        StartedByAYawn nine = Due.lake("0/1;0/1;0/1;0/1;0/1;0/1;0/1;0/1;0/1");
        nine.crew(0, 1, 1);
        Due.is("best: ten ways", nine.best(0), 60);
        Due.row("best: ten ways", nine, 30, 10);
        Due.is("ahead: nine FACES", nine.ahead(91), 9);
        Due.row("ahead: nine FACES", nine, 1, 1, 1, 1, 1, 1, 1, 1, 1);
        StartedByAYawn y = Due.lake("7/1");
        y.crew(0, 1, 1);
        Due.is("best: 9 at most", y.best(0), 0);
        Due.row("best: 9 at most", y, 20, 2);
    }

    private static void seen() {
        StartedByAYawn x = Due.lake("5/1;5/2>a;5/1>b", "1");
        Due.is("seen: none such", x.seen(3, 0), -1);
        Due.is("seen: none such, -1", x.seen(-1, 0), -1);
        Due.is("seen: -1", x.seen(0, -1), -1);
        Due.is("seen: 61", x.seen(0, 61), -1);
        for (int k = 1; k <= 10; k++) {
            Due.is("seen: how many", x.seen(0, 60), k);
        }
        Due.is("seen: an eleventh", x.seen(0, 0), -1);
        Due.is("seen: ten", x.count(9), 10);
        Due.is("forget: ten", x.forget(), 10);
        Due.is("forget: none", x.forget(), 0);
        Due.is("seen: from 1 again", x.seen(0, 0), 1);
    }

    private static void began() {
        StartedByAYawn x = Due.lake("5/1;5/2>a;5/1>b;5/1", "1");
        Due.is("began: nothing was seen", x.began(), 15);
        Due.row("began: it comes as it is", x, 1);
        x.seen(1, 2);
        Due.is("began: a", x.began(), 1);
        Due.row("began: not as it is", x, 0);
        x.seen(2, 3);
        Due.is("began: a makes both come", x.began(), 1);
        x.seen(2, 4);
        Due.is("began: by none", x.began(), 0);
        x.forget();
        x.seen(1, 2);
        x.yawn(0, 0);
        Due.is("began: comes already, but by b, who yawns then", x.began(), 14 - 2);
        Due.row("began: as it is", x, 1);
        x.away(3);
        Due.is("began: d is AWAY", x.began(), 4);
        StartedByAYawn y = Due.lake("3/1");
        y.seen(0, 60);
        Due.is("began: in MINUTE 60 on, not if it yawns now", y.began(), 0);
        Due.row("began: as it is, in MINUTE 60", y, 1);
    }

    private static void delays() {
        StartedByAYawn x = Due.lake("5/1;5/2>a;5/1>b", "1");
        Due.is("delays: nothing was seen", x.delays(0), 1022);
        x.yawn(0, 0);
        x.seen(1, 2);
        Due.is("delays: 2", x.delays(1), 4);
        Due.is("delays: of c, any", x.delays(2), 1022);
        x.seen(2, 9);
        Due.is("delays: 7 of c", x.delays(2), 128);
        Due.is("delays: of b, none", x.delays(1), 0);
        Due.is("delays: none such", x.delays(3), -1);
        Due.is("delays: none such, -1", x.delays(-1), -1);
        Due.is("delays: DELAY stays", x.face(2, 1), 1);
    }

    private static void fewest() {
        StartedByAYawn x = Due.lake("5/1;5/2>a;5/1>b;5/1", "1");
        Due.is("fewest: nothing was seen", x.fewest(), 0);
        Due.row("fewest: nothing was seen", x, 0);
        x.seen(1, 2);
        Due.is("fewest: a", x.fewest(), 1);
        Due.row("fewest: a", x, 1);
        x.seen(3, 0);
        Due.is("fewest: a and d", x.fewest(), 2);
        Due.row("fewest: a and d", x, 9);
        x.away(3);
        Due.is("fewest: none do", x.fewest(), -2);
        Due.row("fewest: the ROW stays", x, 9);
        StartedByAYawn y = Due.lake("5/1;5/1;5/1>ab", "1");
        y.seen(2, 1);
        Due.is("fewest: a or b", y.fewest(), 1);
        Due.row("fewest: of as few the least", y, 1);
        y.away(0);
        Due.is("fewest: a is AWAY", y.fewest(), 1);
        Due.row("fewest: b", y, 2);
        Due.is("fewest: no FACES", new StartedByAYawn().fewest(), 0);
        Due.rule(y, "x=0");
        Due.is("fewest: true", y.fewest(), 1);
        Due.is("began: true", y.began(), 2);
    }

    /** DRAWS of 10 from seed 1: 8, 6, 3, 3, 9, 5. */
    private static void season() {
        StartedByAYawn x = Due.lake("0/1");
        Due.is("season: one", x.season(1, 1), 1);
        Due.row("season: one, TIRED 8", x, 10, 10, 0, 1);
        Due.is("season: four", x.season(1, 4), 4);
        Due.row("season: four, TIRED 8, 6, 3, 3", x, 10, 60, 0, 4);
        Due.is("season: 0", x.season(1, 0), -1);
        Due.is("season: 21", x.season(1, 21), -1);
        Due.row("season: the ROW stays", x, 10, 60, 0, 4);
        Due.wall(x, "4/2>a");
        Due.is("season: two FACES", x.season(1, 3), 3);
        Due.row("season: a 8, b 6; a 3, b 3; a 9, b 5", x, 0, 60, 0, 3);
        x.away(0);
        Due.is("season: a is AWAY, but drawn for", x.season(1, 3), 3);
        Due.row("season: b 6, 3, 5", x, 30, 60, 1, 3);
        x.away(1);
        Due.is("season: none", x.season(1, 20), 0);
        Due.row("season: none", x, -1, -1, -1, 0);
        Due.is("season: nothing changes", x.count(6) * 10 + x.count(1), 40);
        StartedByAYawn none = new StartedByAYawn();
        Due.is("season: no FACES", none.season(7, 2), 0);
        Due.row("season: no FACES", none, -1, -1, -1, 0);
        StartedByAYawn y = Due.lake("0/1");
        y.minutes(5);
        Due.is("season: from now", y.season(1, 1), 1);
        Due.row("season: from now", y, 5, 5, 0, 1);
    }

    private static void keep() {
        StartedByAYawn x = Due.lake("5/2>b;5/3>a");
        Due.is("again: nothing kept", x.again(0), false);
        Due.is("keep: 2", x.keep(2), false);
        Due.is("keep: -1", x.keep(-1), false);
        Due.is("again: 2", x.again(2), false);
        Due.is("again: -1", x.again(-1), false);
        x.yawn(0, 1);
        Due.is("keep: 0", x.keep(0), true);
        x.minutes(20);
        x.away(1);
        Due.is("keep: 1", x.keep(1), true);
        x.set(0, 1, 7);
        x.minute();
        Due.is("again: 0", x.again(0), true);
        Due.is("again: NOW", x.count(1), 0);
        Due.is("again: THE BOOK", x.count(5), 0);
        Due.is("again: AWAY", x.count(3), 0);
        Due.is("again: DUE", x.face(0, 4), 0);
        Due.is("again: meant", x.face(0, 6), 1);
        Due.is("again: TIRED", x.face(0, 0), 5);
        Due.is("again: how often", x.face(0, 3), 0);
        Due.is("again: DELAY stays", x.face(0, 1), 7);
        Due.is("again: nothing can be undone", x.count(8), 0);
        Due.is("again: 1", x.again(1), true);
        Due.is("again: NOW is 20", x.count(1), 20);
        Due.is("again: AWAY is b", x.count(3), 2);
        Due.is("again: once more", x.again(0), true);
        Due.wall(x, "1/1");
        Due.is("again: FACES came since", x.again(0), false);
        Due.is("keep: anew", x.keep(0), true);
        Due.is("again: anew", x.again(0), true);
        Due.is("again: of 1, FACES came since", x.again(1), false);
    }

    private static void count() {
        StartedByAYawn x = Due.lake("5/2>b;5/3>a;4/1");
        x.judges(3);
        x.away(2);
        x.yawn(0, 0);
        x.minute();
        x.crew(1, 1, 1);
        x.seen(0, 1);
        x.sign(0);
        int[] due = {3, 1, 3, 4, 2, 1, 13, 1, 3, 1, 2, 4};
        for (int what = 0; what < due.length; what++) {
            Due.is("count(" + what + ")", x.count(what), due[what]);
        }
        Due.is("count(12)", x.count(12), -1);
        Due.is("count(-1)", x.count(-1), -1);
        Due.is("NONE", StartedByAYawn.NONE, -1);
    }

    private static void row() {
        StartedByAYawn x = Due.lake("5/2>b;5/3>a;4/1");
        Due.noSuch("row(0) of none", () -> x.row(0));
        x.ahead(1);
        Due.row("row: three", x, 0, 0, 0);
        x.catchers(0, 0);
        Due.row("row: one", x, 2);
        Due.noSuch("row: the largest", () -> x.row(Integer.MAX_VALUE));
        Due.noSuch("row: the least", () -> x.row(Integer.MIN_VALUE));
        x.dies(0);
        x.everlasting();
        x.calm(0, 1);
        x.delays(0);
        Due.row("row: stays with calls that tell none", x, 2);
    }
}
