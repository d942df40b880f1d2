/** Promises 11 to 19: minutes. */
public final class MinutesTest {
    private static final String THREE = "5/2>b;5/3>a;2/1>ab";

    public static void main(String[] args) {
        yawn();
        away();
        catchers();
        minute();
        howAMinuteGoesBy();
        minutes();
        hour();
        hoursFaults();
        undo();
        undoBringsBack();
        book();
        back();
        backBeyondTheBook();
        Due.end();
    }

    private static void yawn() {
        StartedByAYawn x = Due.lake(THREE);
        Due.is("yawn: meant 2", x.yawn(0, 2), false);
        Due.is("yawn: meant -1", x.yawn(0, -1), false);
        Due.is("yawn: no FACE 3", x.yawn(3, 0), false);
        Due.is("yawn: no FACE -1", x.yawn(-1, 0), false);
        Due.is("yawn: refused ones are not kept", x.count(8), 0);
        Due.is("yawn: meant", x.yawn(0, 1), true);
        Due.is("yawn: has DUE", x.yawn(0, 0), false);
        Due.is("yawn: true", x.yawn(2, 0), true);
        Due.is("yawn: who has DUE", x.count(4), 5);
        Due.is("yawn: DUE now", x.face(0, 4), 0);
        Due.is("yawn: two can be undone", x.count(8), 2);
        x.away(1);
        Due.is("yawn: AWAY", x.yawn(1, 0), false);
        Due.is("yawn: they do", x.minute(), 5);
        Due.is("yawn: meant in THE BOOK", x.book(0, 3), 1);
        Due.is("yawn: true in THE BOOK", x.book(1, 3), 0);
        Due.is("yawn: without CAUSE", x.book(0, 2), -1);
    }

    private static void away() {
        StartedByAYawn x = Due.lake("9/1>b;9/1>a;0/1>ab", "1");
        Due.is("away: none such", x.away(3), -1);
        Due.is("away: none such, -1", x.away(-1), -1);
        Due.is("away: refused ones are not kept", x.count(8), 0);
        Due.is("away: one", x.away(0), 1);
        Due.is("away: two", x.away(2), 2);
        Due.is("away: who", x.count(3), 5);
        Due.is("away: yawns not", x.minute(), 2);
        Due.row("away: CATCHES not", x, 0, 0);
        Due.is("away: comes back", x.away(2), 1);
        x.minute();
        Due.row("away: is not seen", x, 0, 0);
        x.minutes(8);
        Due.is("away: 9 at most", x.face(0, 0), 9);
        x.away(2);
        Due.is("away: TIRED as it came", x.face(2, 0), 1);
        x.minutes(10);
        Due.is("away: gets TIRED", x.face(2, 0), 2);
        StartedByAYawn y = Due.lake(THREE);
        y.yawn(0, 0);
        y.away(0);
        Due.is("away: has no DUE", y.count(4), 0);
        y.away(0);
        Due.is("away: back without DUE", y.count(4), 0);
        Due.is("away: nobody yawns", y.minute(), 0);
    }

    private static void catchers() {
        StartedByAYawn x = Due.lake("5/2>b;5/3>a;2/1>ab;7/1>a");
        Due.is("catchers: of a", x.catchers(0, 0), 10);
        Due.row("catchers: who SEES a", x, 14);
        Due.is("catchers: of c", x.catchers(2, 0), 0);
        Due.row("catchers: nobody SEES c", x, 0);
        Due.is("catchers: meant 2", x.catchers(0, 2), -1);
        Due.is("catchers: meant -1", x.catchers(0, -1), -1);
        Due.is("catchers: no FACE 4", x.catchers(4, 0), -1);
        Due.is("catchers: no FACE -1", x.catchers(-1, 0), -1);
        Due.row("catchers: the ROW stays", x, 0);
        x.yawn(1, 0);
        Due.is("catchers: b has DUE", x.catchers(0, 0), 8);
        Due.row("catchers: b with DUE SEES a", x, 14);
        x.away(3);
        Due.is("catchers: d is AWAY", x.catchers(0, 0), 0);
        Due.row("catchers: d SEES not", x, 6);
        Due.is("catchers: AWAY itself", x.catchers(3, 0), -2);
        Due.is("catchers: AWAY itself, meant 2", x.catchers(3, 2), -1);
        Due.is("catchers: one that has DUE", x.catchers(1, 1), 1);
        Due.rule(x, "y=5");
        Due.is("catchers: as TIRED as they are", x.catchers(0, 0), 4);
        Due.is("catchers: nothing changes", x.count(4) * 100 + x.count(1) * 10 + x.count(5), 200);
    }

    private static void minute() {
        StartedByAYawn x = Due.lake(THREE);
        x.judges(4);
        x.yawn(0, 1);
        x.yawn(2, 1);
        Due.is("minute: a and c yawn", x.minute(), 5);
        Due.row("minute: b catches one, a's is FALSE", x, 2, 1);
        Due.is("minute: nobody", x.minute(), 0);
        Due.row("minute: nothing", x, 0, 0);
        Due.is("minute: NOW", x.count(1), 2);
        x.minute();
        Due.is("minute: b, by a", x.minute(), 2);
        Due.row("minute: a catches it, and it is true", x, 1, 0);
        Due.is("minute: can be undone", x.count(8), 6);
    }

    private static void howAMinuteGoesBy() {
        StartedByAYawn x = Due.lake("9/1;3/1>a;9/1>a", "1");
        Due.is("(1): TIRED 9", x.minute(), 5);
        Due.row("(3): who yawns CATCHES not", x, 2, 0);
        Due.is("(1): without CAUSE", x.book(0, 2), -1);
        Due.is("(2): less TIRED", x.face(0, 0), 8);
        StartedByAYawn y = Due.lake("5/1;5/1;5/2>ab;0/1", "1");
        y.yawn(0, 0);
        y.yawn(1, 0);
        y.yawn(3, 0);
        y.minute();
        Due.is("(3): the first is CAUSE", y.face(2, 5), 0);
        Due.is("(2): 0 at least", y.face(3, 0), 0);
        y.yawn(1, 0);
        y.minute();
        Due.is("(3): who has DUE CATCHES not", y.face(2, 5) * 10 + y.face(2, 4), 0);
        StartedByAYawn z = Due.lake("5/1;5/1;5/2>ab", "j=1");
        z.yawn(0, 0);
        z.yawn(1, 0);
        z.minute();
        Due.is("(3): the first it CATCHES from", z.face(2, 5), 1);
        StartedByAYawn w = Due.lake("5/1;9/3");
        w.minute();
        w.minutes(8);
        Due.is("(4): not yet", w.face(0, 0) * 10 + w.face(1, 0), 58);
        w.minute();
        Due.is("(4): more TIRED", w.face(0, 0) * 10 + w.face(1, 0), 69);
        Due.is("(1): again", w.minute(), 2);
        StartedByAYawn v = Due.lake("9/1", "1");
        v.yawn(0, 1);
        v.minute();
        Due.is("(1): with DUE it is as it was", v.book(0, 3), 1);
        StartedByAYawn u = Due.lake("9/2;4/1>a;5/1>a", "y=8");
        u.minute();
        Due.row("(3): TIRED as behind (2)", u, 6, 0);
        u.minute();
        Due.is("(3): DELAY MINUTES later", u.book(1, 0) * 10 + u.book(2, 0), 11);
    }

    private static void minutes() {
        StartedByAYawn x = Due.lake(THREE);
        x.judges(4);
        Due.is("minutes: none", x.minutes(0), 0);
        Due.row("minutes: none", x, 0, -1);
        Due.is("minutes: none is not kept", x.count(8), 0);
        x.yawn(0, 1);
        Due.is("minutes: 301", x.minutes(301), -1);
        Due.is("minutes: -1", x.minutes(-1), -1);
        Due.is("minutes: 3", x.minutes(3), 1);
        Due.row("minutes: FALSE", x, 1, -1);
        Due.is("minutes: 3 more", x.minutes(3), 2);
        Due.row("minutes: THE START in these", x, 0, 0);
        Due.is("minutes: NOW", x.count(1), 6);
        Due.is("minutes: as one", x.undo(), 2);
        Due.is("minutes: undone", x.count(1), 3);
        x.minutes(1);
        Due.is("minutes: 1 is kept", x.count(8), 3);
        StartedByAYawn y = Due.lake("0/1");
        Due.is("minutes: 300", y.minutes(300), 21);
        Due.row("minutes: 300", y, 0, 90);
        Due.is("minutes: 300 more", y.minutes(300), 30);
        Due.row("minutes: counted from the first", y, 0, 0);
    }

    private static void hour() {
        StartedByAYawn x = Due.lake(THREE);
        Due.is("hour: no ACTS", Due.hour(x, ""), 0);
        Due.row("hour: no ACTS", x, 0, 0);
        Due.is("hour: no ACTS are not kept", x.count(8), 0);
        Due.is("hour: six", Due.hour(x, "yb;m3;tc9;m1;fa;aa"), 6);
        Due.row("hour: six", x, 0, 3);
        Due.is("hour: as one", x.undo(), 0);
        Due.is("hour: TIRED is undone", x.face(2, 0), 2);
        Due.is("hour: no FACE d", Due.hour(x, "yd"), 0);
        Due.row("hour: no FACE d", x, 1, 0);
        Due.is("hour: nothing done is not kept", x.count(8), 0);
        Due.is("hour: a has DUE", Due.hour(x, "ya;ya;m9"), 1);
        Due.row("hour: a has DUE", x, 1, 0);
        Due.is("hour: one done is kept", x.count(8), 1);
        Due.is("hour: it stays done", x.count(4), 1);
        Due.is("hour: meant", Due.hour(x, "fb;ti9;m1"), 1);
        Due.is("hour: b means it", x.face(1, 6), 1);
        Due.is("hour: a does not", x.face(0, 6), 0);
        Due.is("hour: AWAY", Due.hour(x, "ai"), 0);
        Due.is("hour: AWAY yawns not", Due.hour(x, "ac;yc"), 1);
        Due.is("hour: no MINUTES", Due.hour(x, "m0"), 1);
        Due.is("hour: no MINUTES are kept", x.count(8), 4);
        Due.is("hour: 99 MINUTES", Due.hour(x, "m99;m9;m09"), 3);
        Due.is("hour: 99 MINUTES", x.count(1), 117);
        Due.is("hour: comes back", Due.hour(x, "ac;tc0"), 2);
        Due.is("hour: came back", x.count(3) * 10 + x.face(2, 0), 0);
    }

    private static void hoursFaults() {
        StartedByAYawn x = Due.lake(THREE);
        String[] faulty = {"x", "m", "y", "yj", "ta", "m123", "m1;", "ta12", ";", "m1;;", "y1", "mm", "yaa", "tj1", "ma",
            "m1,m1", "fA", "t1"};
        int[] at = {0, 1, 1, 1, 2, 3, 3, 3, 0, 3, 1, 1, 2, 1, 1, 2, 1, 1};
        for (int i = 0; i < faulty.length; i++) {
            Due.is("hour: " + faulty[i], Due.hour(x, faulty[i]), -1 - at[i]);
            Due.is("hour: " + faulty[i] + " reads THE TEXT away", x.count(11), 0);
        }
        Due.is("hour: nothing is done then", Due.hour(x, "ya;m1;x"), -7);
        Due.is("hour: nothing was done", x.count(1) + x.count(4) + x.count(8), 0);
        String ten = "m1;m1;m1;m1;m1;m1;m1;m1;m1;m1;";
        Due.is("hour: 60 signs", Due.hour(x, ten + "m1;m1;m1;m1;m1;m1;m1;m1;m1;m10"), 20);
        Due.is("hour: 60 signs, 29 MINUTES", x.count(1), 29);
        Due.is("hour: 61 signs", Due.hour(x, ten + ten + "m"), -61);
        Due.is("hour: 60 end too early", Due.hour(x, ten + ten), -61);
        Due.is("hour: 60 could end, then junk", Due.hour(x, ten + "m1;m1;m1;m1;m1;m1;m1;m1;m1;m10x"), -61);
        Due.is("hour: a fault among 60", Due.hour(x, ten + ten.substring(3) + "mmm1"), -59);
    }

    private static void undo() {
        StartedByAYawn x = Due.lake(THREE);
        Due.is("undo: none", x.undo(), -1);
        for (int k = 1; k <= 13; k++) {
            x.minute();
            Due.is("undo: kept", x.count(8), Math.min(k, 12));
        }
        for (int k = 11; k >= 0; k--) {
            Due.is("undo: left", x.undo(), k);
            Due.is("undo: NOW", x.count(1), k + 1);
        }
        Due.is("undo: the thirteenth is forgotten", x.undo(), -1);
        x.away(0);
        Due.wall(x, "");
        Due.is("undo: an empty wall forgets nothing", x.count(8), 1);
        Due.wall(x, "1/1;");
        Due.is("undo: a refused wall forgets nothing", x.count(8), 1);
        Due.wall(x, "1/1");
        Due.is("undo: a wall forgets", x.undo(), -1);
        x.away(0);
        x.again(0);
        Due.is("undo: again() refused forgets nothing", x.count(8), 1);
        x.keep(0);
        Due.is("undo: keep() forgets nothing", x.count(8), 1);
        x.again(0);
        Due.is("undo: again() forgets", x.undo(), -1);
    }

    private static void undoBringsBack() {
        StartedByAYawn x = Due.lake(THREE);
        x.yawn(0, 1);
        x.minute();
        x.away(1);
        Due.hour(x, "yc;m5;ta9");
        x.set(0, 1, 9);
        x.set(0, 0, 1);
        Due.is("undo: AN HOUR", x.undo(), 3);
        Due.is("undo: NOW", x.count(1), 1);
        Due.is("undo: THE BOOK", x.count(5), 1);
        Due.is("undo: TIRED", x.face(0, 0), 4);
        Due.is("undo: TIRED of c", x.face(2, 0), 2);
        Due.is("undo: how often", x.face(2, 3), 0);
        Due.is("undo: DELAY stays", x.face(0, 1), 9);
        Due.is("undo: away()", x.undo(), 2);
        Due.is("undo: who is AWAY", x.count(3), 0);
        Due.is("undo: DUE", x.face(1, 4), 2);
        Due.is("undo: CAUSE", x.face(1, 5), 0);
        Due.is("undo: minute()", x.undo(), 1);
        Due.is("undo: DUE again", x.face(0, 4), 0);
        Due.is("undo: meant again", x.face(0, 6), 1);
        Due.is("undo: yawn()", x.undo(), 0);
        Due.is("undo: no DUE", x.count(4), 0);
        x.minutes(10);
        x.yawn(1, 0);
        x.undo();
        Due.is("undo: yawn() alone", x.count(1) * 1000 + x.count(6) * 10 + x.count(4), 10_000 + (12 + 3) * 10);
        StartedByAYawn y = Due.lake("0/1;0/1>a", "1");
        for (int k = 0; k < 7; k++) {
            Due.hour(y, "fa;m2;ya;m2;yb;m1;ya;m2;ya;m2;ya;m2;ya;m2;ya;m2;ya;m2;ya;m2");
        }
        Due.is("undo: THE BOOK is full", y.count(5), 60);
        String known = bookOf(y);
        y.minutes(1);
        Due.hour(y, "yb;m1;fb;m1;ya;m2;fb;m1;yb;m1;fb;m1");
        y.undo();
        y.undo();
        Due.is("undo: the whole BOOK", bookOf(y).equals(known), true);
    }

    private static String bookOf(StartedByAYawn x) {
        StringBuilder all = new StringBuilder();
        for (int i = 0; i < x.count(5); i++) {
            for (int what = 0; what < 5; what++) {
                all.append(x.book(i, what)).append(' ');
            }
        }
        return all.toString();
    }

    private static void book() {
        StartedByAYawn x = Due.lake(THREE);
        Due.noSuch("book: empty", () -> x.book(0, 0));
        x.judges(4);
        x.yawn(0, 1);
        x.yawn(2, 1);
        x.minutes(4);
        int[][] due = {{0, 0, -1, 1, 1}, {0, 2, -1, 1, 0}, {3, 1, 0, 0, 0}};
        for (int i = 0; i < due.length; i++) {
            for (int what = 0; what < 5; what++) {
                Due.is("book(" + i + ", " + what + ")", x.book(i, what), due[i][what]);
            }
        }
        x.judges(0);
        Due.is("book: by JUDGES as they stand", x.book(0, 4), 0);
        Due.noSuch("book(3, 0)", () -> x.book(3, 0));
        Due.noSuch("book(-1, 0)", () -> x.book(-1, 0));
        Due.noSuch("book(0, 5)", () -> x.book(0, 5));
        Due.noSuch("book(0, -1)", () -> x.book(0, -1));
        StartedByAYawn y = Due.lake("0/1");
        for (int k = 0; k < 7; k++) {
            Due.hour(y, "ya;m1;ya;m1;ya;m1;ya;m1;ya;m1;ya;m1;ya;m1;ya;m1;ya;m1;ya;m1");
        }
        Due.is("book: the last 60", y.count(5), 60);
        Due.is("book: the first known", y.book(0, 0), 10);
        Due.is("book: the last", y.book(59, 0), 69);
        Due.noSuch("book(60, 0)", () -> y.book(60, 0));
        Due.is("book: undo knows the first again", y.undo() * 0 + y.book(0, 0), 0);
    }

    private static void back() {
        StartedByAYawn x = Due.lake("5/2;5/3>a;5/1>b;5/1>d", "1");
        x.yawn(0, 0);
        x.minutes(9);
        Due.is("back: none such", x.back(3), -1);
        Due.is("back: none such, -1", x.back(-1), -1);
        Due.is("back: without CAUSE", x.back(0), 0);
        Due.row("back: it is the last", x, 0, 1);
        Due.is("back: one", x.back(1), 1);
        Due.is("back: two", x.back(2), 2);
        Due.row("back: from c to a", x, 0, 1);
        StartedByAYawn y = Due.lake("5/1>b;5/1>a;5/4>a", "1");
        y.yawn(0, 0);
        y.minutes(5);
        Due.is("back: c yawns by a of MINUTE 0", y.book(5, 1) * 10 + y.book(5, 0), 24);
        Due.is("back: led to the latest yawn of a ahead of it", y.back(5), 3);
        Due.row("back: to the first one", y, 0, 1);
    }

    private static void backBeyondTheBook() {
        StartedByAYawn x = Due.lake("5/1;5/9>a;5/1;5/1;5/1;5/1;5/1;5/1;5/1", "1");
        x.yawn(0, 0);
        for (int k = 0; k < 9; k++) {
            Due.is("back: seven", Due.hour(x, "yc;yd;ye;yf;yg;yh;yi;m1"), 8);
        }
        x.minute();
        Due.is("back: b yawns at the end", x.book(59, 1), 1);
        Due.is("back: by a", x.book(59, 2), 0);
        Due.row("back: nobody catches one then", x, 0, 0);
        x.ahead(0);
        Due.is("back: a counts yet", x.back(59), 1);
        Due.row("back: a is the last", x, 0, 0);
    }
}
