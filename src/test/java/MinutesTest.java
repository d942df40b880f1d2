/** Promises 11 to 19: minutes. */
public final class MinutesTest {
    private static final String THREE = "5/2>b;5/3>a;2/1>ab";

    public static void main(String[] args) {
        yawn();
        away();
        catchers();
        catchersRefused();
        minute();
        minutes();
        hour();
        hoursActs();
        hoursEnd();
        hoursFaults();
        undo();
        undoBringsBack();
        undoForgets();
        book();
        back();
        backBeyondTheBook();
        Doc.quoted(11, 19);
        Due.end();
    }

    private static void yawn() {
        Due.says(11, "A FACE will yawn in the MINUTE that is now, without CAUSE; means it (1), or not (0): true.", () -> {
            StartedByAYawn x = Due.lake(THREE);
            x.minutes(3);
            Due.is("meant", x.yawn(0, 1), true);
            Due.is("true", x.yawn(2, 0), true);
            Due.is("who has DUE", x.count(4), 5);
            Due.is("now", x.face(0, 4), 0);
            Due.is("without CAUSE", x.face(0, 5), -1);
            Due.is("a means it", x.face(0, 6), 1);
            Due.is("c does not", x.face(2, 6), 0);
            Due.is("they do", x.minute(), 5);
            Due.is("THE BOOK has it", Due.bookOf(x).equals("3/0/-1/1/0 3/2/-1/0/0 "), true);
        });
        Due.says(11, "Refused: others, it has DUE, is AWAY.", () -> {
            StartedByAYawn x = Due.lake(THREE);
            int[][] bad = {{0, 2}, {0, -1}, {3, 0}, {-1, 0}, {9, 1}, {Integer.MAX_VALUE, 0}, {Integer.MIN_VALUE, 0},
                {0, Integer.MAX_VALUE}, {0, Integer.MIN_VALUE}};
            for (int[] b : bad) {
                Due.refuses("yawn(" + b[0] + ", " + b[1] + ")", x, () -> x.yawn(b[0], b[1]));
            }
            x.yawn(0, 1);
            Due.refuses("DUE now, true", x, () -> x.yawn(0, 0));
            Due.refuses("DUE now, meant", x, () -> x.yawn(0, 1));
            x.minute();
            Due.refuses("DUE later", x, () -> x.yawn(1, 0));
            x.away(2);
            Due.refuses("AWAY", x, () -> x.yawn(2, 0));
            x.away(2);
            Due.is("it came back", x.yawn(2, 0), true);
        });
    }

    private static void away() {
        Due.says(12, "A FACE is AWAY from now on, or comes back (it has no DUE then): how many are AWAY.", () -> {
            StartedByAYawn x = Due.lake("9/1>b;9/1>a;0/1>ab", "1");
            Due.is("a", x.away(0), 1);
            Due.is("c", x.away(2), 2);
            Due.is("who", x.count(3), 5);
            Due.is("they yawn not", x.minute(), 2);
            Due.row("they CATCH not", x, 0, 0);
            Due.is("c comes back", x.away(2), 1);
            Due.is("who", x.count(3), 1);
            Due.is("all three", x.away(1) + x.away(2), 5);
            StartedByAYawn y = Due.lake(THREE);
            y.yawn(0, 1);
            y.away(0);
            Due.is("no DUE", y.face(0, 4), -1);
            Due.is("back", y.away(0), 0);
            Due.is("back without DUE", y.face(0, 4), -1);
            Due.is("nobody yawns", y.minute(), 0);
            y.yawn(0, 0);
            y.minute();
            y.away(1);
            y.away(1);
            Due.is("what it caught is gone", y.minutes(5), 0);
        });
        Due.says(12, "Refused: none such.", () -> {
            StartedByAYawn x = Due.lake(THREE);
            for (int f : new int[] {3, 8, 9, -1, Integer.MAX_VALUE, Integer.MIN_VALUE}) {
                Due.refused("away(" + f + ")", x, () -> x.away(f));
            }
            Due.is("no FACES", new StartedByAYawn().away(0), -1);
        });
    }

    private static void catchers() {
        Due.says(13, "Who would CATCH one (bits), if a FACE (not AWAY) alone yawned in the MINUTE that is now, meaning it (1) or not (0),", () -> {
            StartedByAYawn x = Due.lake("5/2>b;5/3>a;2/1>ab;7/1>a");
            Due.asks("of a", x, () -> x.catchers(0, 0), 10);
            Due.asks("of c", x, () -> x.catchers(2, 0), 0);
            Due.rule(x, "x");
            Due.is("meant", x.catchers(0, 1), 14);
            Due.is("true", x.catchers(0, 0), 0);
            Due.rule(x, "m=4");
            Due.wind(x, "0");
            x.minutes(4);
            Due.is("in MINUTE 4", x.catchers(0, 0), 14);
            StartedByAYawn y = Due.lake("5/1;5/1;2/1>ab;9/1>a", "n=2");
            y.yawn(1, 0);
            Due.is("alone", y.catchers(0, 0), 0);
            Due.rule(y, "j=1");
            Due.is("from it alone", y.catchers(0, 0), 0);
            Due.rule(y, "t=9");
            Due.is("TIRED 9 yawns not ahead of it", y.catchers(0, 0), 8);
        });
        Due.says(13, "all as TIRED as they are,", () -> {
            StartedByAYawn x = Due.lake("5/1;2/1>a;5/1>a", "y=5");
            Due.is("not less by the yawn", x.catchers(0, 0), 6);
            Due.rule(x, "y=4");
            Due.is("not 4", x.catchers(0, 0), 0);
            x.minutes(9);
            Due.rule(x, "t=2");
            Due.is("not more by (4)", x.catchers(0, 0), 2);
        });
        Due.says(13, "nobody that is AWAY or has DUE;", () -> {
            StartedByAYawn x = Due.lake("5/1>c;5/1>a;5/9>a;5/1>a", "1");
            x.away(1);
            x.yawn(2, 0);
            Due.is("b is AWAY, c has DUE", x.catchers(0, 0), 8);
            x.minute();
            Due.is("a has DUE and is not asked of itself", x.catchers(0, 0), 4 + 8);
            Due.is("a has DUE later", x.catchers(2, 0), 0);
        });
        Due.says(13, "the ROW: who SEES it (bits, nobody that is AWAY).", () -> {
            StartedByAYawn x = Due.lake("5/2>ab;5/3>a;2/1>ab;7/1>a");
            Due.told("b, c, d", x, x.catchers(0, 0), 10, 14);
            Due.told("nobody", x, x.catchers(2, 0), 0, 0);
            x.yawn(1, 0);
            Due.told("also b, that has DUE", x, x.catchers(0, 0), 8, 14);
            x.away(3);
            Due.told("not d, that is AWAY", x, x.catchers(0, 0), 0, 6);
        });
    }

    private static void catchersRefused() {
        Due.says(13, "-2: it is AWAY;", () -> {
            StartedByAYawn x = Due.lake("5/2>b;5/3>a");
            x.catchers(0, 0);
            x.away(1);
            Due.none("true", x, () -> x.catchers(1, 0), -2);
            Due.none("meant", x, () -> x.catchers(1, 1), -2);
        });
        Due.says(13, "NONE: others.", () -> {
            StartedByAYawn x = Due.lake("5/2>b;5/3>a");
            x.catchers(0, 0);
            x.away(1);
            int[][] bad = {{0, 2}, {0, -1}, {2, 0}, {-1, 1}, {1, 2}, {1, -1}, {Integer.MAX_VALUE, 0}, {Integer.MIN_VALUE, 1},
                {0, Integer.MAX_VALUE}};
            for (int[] b : bad) {
                Due.refused("catchers(" + b[0] + ", " + b[1] + ")", x, () -> x.catchers(b[0], b[1]));
            }
            Due.is("no FACES", new StartedByAYawn().catchers(0, 0), -1);
        });
    }

    private static void minute() {
        Due.says(14, "A MINUTE goes by: who yawned in it (bits);", () -> {
            StartedByAYawn x = Due.lake(THREE);
            x.yawn(0, 0);
            x.yawn(2, 0);
            Due.is("a and c", x.minute(), 5);
            Due.is("nobody", x.minute(), 0);
            Due.is("nobody yet", x.minute(), 0);
            Due.is("b, by a", x.minute(), 2);
            Due.is("NOW", x.count(1), 4);
            Due.is("no FACES", new StartedByAYawn().minute(), 0);
        });
        Due.says(14, "the ROW: who caught one in it (bits), who yawned FALSE (bits).", () -> {
            StartedByAYawn x = Due.lake(THREE);
            x.judges(4);
            x.yawn(0, 1);
            x.yawn(2, 1);
            x.minute();
            Due.row("b caught one, a's was FALSE, c's not", x, 2, 1);
            Due.told("nobody", x, x.minute(), 0, 0, 0);
            x.minute();
            Due.told("a caught one of b's, that is true", x, x.minute(), 2, 1, 0);
        });
    }

    private static void minutes() {
        Due.says(15, "n MINUTES (0 .. 300) go by: how many yawns;", () -> {
            StartedByAYawn x = Due.lake("0/1");
            Due.asks("none", x, () -> x.minutes(0), 0);
            Due.is("90", x.minutes(90), 0);
            Due.is("one", x.minutes(1), 1);
            Due.is("209", x.minutes(209), 20);
            Due.is("300", x.minutes(300), 30);
            Due.is("NOW", x.count(1), 600);
            StartedByAYawn y = Due.lake("9/1;9/1;5/1>a", "1");
            Due.is("several in a MINUTE", y.minutes(2), 3);
        });
        Due.says(15, "the ROW: how many of them were FALSE, the MINUTE of THE START in these (counted from the first; NONE: none).", () -> {
            StartedByAYawn x = Due.lake("5/1>bc;5/3>c;5/1;5/1", "1");
            x.judges(1);
            Due.told("none", x, x.minutes(0), 0, 0, -1);
            x.minutes(2);
            Due.hour(x, "fb;fc");
            Due.told("two FALSE, no START", x, x.minutes(1), 2, 2, -1);
            Due.told("no yawn", x, x.minutes(0), 0, 0, -1);
            Due.told("a caught one of b's, DELAY 1", x, x.minutes(5), 1, 0, 0);
            Due.hour(x, "fc");
            Due.told("c FALSE, then a, b and a", x, x.minutes(5), 4, 1, 1);
            Due.hour(x, "fc;yd");
            Due.told("START with a FALSE one", x, x.minutes(1), 2, 1, 0);
            StartedByAYawn y = Due.lake("0/1");
            y.minutes(7);
            Due.told("counted from the first", y, y.minutes(300), 21 + 1, 0, 83);
        });
        Due.says(15, "NONE: another n.", () -> {
            StartedByAYawn x = Due.lake(THREE);
            x.minutes(0);
            for (int n : new int[] {-1, 301, Integer.MIN_VALUE, Integer.MAX_VALUE}) {
                Due.refused("minutes(" + n + ")", x, () -> x.minutes(n));
            }
        });
    }

    private static void hour() {
        Due.says(16, "THE TEXT tells AN HOUR (an empty one: no ACTS), ACTS with ; between:", () -> {
            StartedByAYawn x = Due.lake(THREE);
            x.ahead(0);
            Due.asks("no ACTS", x, x::hour, 0);
            Due.row("no ACTS", x, 0, 0);
            Due.told("one", x, Due.hour(x, "m1"), 1, 0, 0);
            Due.told("six", x, Due.hour(x, "yb;m3;tc9;m1;fa;aa"), 6, 0, 3);
            Due.is("read away", x.count(11), 0);
            Due.is("no ; between", Due.hour(x, "m1m1"), -3);
            Due.is("a comma", Due.hour(x, "m1,m1"), -3);
            Due.is("two ; between", Due.hour(x, "m1;;m1"), -4);
        });
        Due.says(16, "m and a number (1 or 2 digits): so many MINUTES go by;", () -> {
            StartedByAYawn x = Due.lake(THREE);
            String[] acts = {"m0", "m1", "m9", "m00", "m09", "m10", "m99"};
            int now = 0;
            for (String act : acts) {
                Due.is(act, Due.hour(x, act), 1);
                now += Integer.parseInt(act.substring(1));
                Due.is("NOW behind " + act, x.count(1), now);
            }
            Due.is("no digit", Due.hour(x, "m"), -2);
            Due.is("three digits", Due.hour(x, "m100"), -4);
        });
    }

    private static void hoursActs() {
        Due.says(16, "y or f and a letter (a .. i): yawn() that is true, or meant;", () -> {
            StartedByAYawn x = Due.lake(THREE);
            Due.is("a true, b meant", Due.hour(x, "ya;fb"), 2);
            Due.is("who has DUE", x.count(4), 3);
            Due.is("a does not mean it", x.face(0, 6), 0);
            Due.is("b does", x.face(1, 6), 1);
            Due.is("i", Due.hour(x, "yi"), 0);
            Due.is("j", Due.hour(x, "yj"), -2);
            Due.is("A", Due.hour(x, "fA"), -2);
            Due.is("`", Due.hour(x, "f`"), -2);
            StartedByAYawn nine = Due.lake("1/1;1/1;1/1;1/1;1/1;1/1;1/1;1/1;1/1");
            Due.is("i of nine", Due.hour(nine, "fi;m1"), 2);
            Due.is("FACE 8", nine.book(0, 1), 8);
        });
        Due.says(16, "a and a letter: away();", () -> {
            StartedByAYawn x = Due.lake(THREE);
            Due.is("a and c", Due.hour(x, "aa;ac"), 2);
            Due.is("AWAY", x.count(3), 5);
            Due.is("c comes back", Due.hour(x, "ac"), 1);
            Due.is("AWAY", x.count(3), 1);
            Due.is("it has no DUE", Due.hour(x, "yb;ab"), 2);
            Due.is("nobody has", x.count(4), 0);
            Due.is("j", Due.hour(x, "aj"), -2);
        });
        Due.says(16, "t, a letter, a digit: TIRED (FACES whether there or not):", () -> {
            StartedByAYawn x = Due.lake(THREE);
            Due.is("9 and 0", Due.hour(x, "ta9;tc0"), 2);
            Due.is("a", x.face(0, 0), 9);
            Due.is("c", x.face(2, 0), 0);
            Due.told("d is not there, but can be told", x, Due.hour(x, "td5;m1"), 0, 1, 0);
            Due.told("nor is i", x, Due.hour(x, "ti5"), 0, 1, 0);
            Due.told("nor is e, that yawns", x, Due.hour(x, "ye"), 0, 1, 0);
            Due.told("nor is e, that is AWAY", x, Due.hour(x, "ae"), 0, 1, 0);
            Due.is("j", Due.hour(x, "tj5"), -2);
            Due.is("no digit", Due.hour(x, "ta"), -3);
            Due.is("two digits", Due.hour(x, "ta10"), -4);
            x.away(0);
            Due.is("one that is AWAY", Due.hour(x, "ta3"), 1);
            Due.is("is so TIRED", x.face(0, 0), 3);
        });
    }

    private static void hoursEnd() {
        Due.says(16, "they are done one by one, till one can't be: how many were done;", () -> {
            StartedByAYawn x = Due.lake(THREE);
            Due.is("c does not come that late", Due.hour(x, "m2;ya;ya;m9"), 2);
            Due.is("two MINUTES went by", x.count(1), 2);
            Due.is("a has DUE", x.count(4), 1);
            Due.is("none: a has DUE", Due.hour(x, "ya;m9"), 0);
            Due.is("a yawns, then again", Due.hour(x, "m1;ya"), 2);
            Due.is("AWAY", Due.hour(x, "ac;yc;m9"), 1);
            Due.is("AWAY, meant", Due.hour(x, "fc"), 0);
            Due.is("b has DUE, caught", Due.hour(x, "fb"), 0);
            Due.is("NOW", x.count(1), 3);
        });
        Due.says(16, "the ROW: 1 if one could not be, else 0; how many yawns.", () -> {
            StartedByAYawn x = Due.lake("9/1;9/1;0/1");
            Due.told("all were", x, Due.hour(x, "yc;m1"), 2, 0, 3);
            Due.told("the last could not be", x, Due.hour(x, "ya;yb;m1;ta9;m1;yd"), 5, 1, 3);
            Due.told("the first could not be", x, Due.hour(x, "yd;ya;m1"), 0, 1, 0);
            Due.told("one MINUTE after the other", x, Due.hour(x, "ya;m1;ya;m1;ya;m1"), 6, 0, 3);
            Due.told("DUE only", x, Due.hour(x, "ya"), 1, 0, 0);
        });
        Due.says(16, "nothing is done then.", () -> {
            StartedByAYawn x = Due.lake(THREE);
            x.ahead(0);
            Due.text(x, "");
            String before = Due.stateOf(x);
            Due.is("the third", Due.hour(x, "ya;m1;x"), -7);
            Due.is("its end", Due.hour(x, "ta9;"), -5);
            Due.is("all is as it was", Due.stateOf(x).equals(before), true);
            Due.row("the ROW stays", x, 0, 0, 0);
        });
    }

    private static void hoursFaults() {
        Due.says(16, "-1 - p: the sign at p can't stand there (as wall(); 60 signs);", () -> {
            StartedByAYawn x = Due.lake(THREE);
            String[] faulty = {"x", "m", "y", "f", "a", "t", "yj", "ta", "m123", "m1;", "ta12", ";", "m1;;", "y1", "mm", "yaa",
                "tj1", "ma", "m1,m1", "fA", "t1", "m1 ", "M1"};
            int[] at = {0, 1, 1, 1, 1, 1, 1, 2, 3, 3, 3, 0, 3, 1, 1, 2, 1, 1, 2, 1, 1, 2, 0};
            for (int i = 0; i < faulty.length; i++) {
                Due.is(faulty[i], Due.hour(x, faulty[i]), -1 - at[i]);
                Due.is(faulty[i] + " is read away", x.count(11), 0);
            }
            String ten = "m1;m1;m1;m1;m1;m1;m1;m1;m1;m1;";
            String nine = "m1;m1;m1;m1;m1;m1;m1;m1;m1;";
            Due.is("60 end too early", Due.hour(x, ten + ten), -61);
            Due.is("61, the first 60 could go on", Due.hour(x, ten + ten + "m"), -61);
            Due.is("61, the first 60 could end", Due.hour(x, ten + nine + "m101"), -61);
            Due.is("62, what can't stand behind", Due.hour(x, ten + nine + "m10xx"), -61);
            Due.is("80", Due.hour(x, ten + ten + "m1;m1;m1;m1;m1;m1;m1"), -61);
            Due.is("61, the last but one can't stand", Due.hour(x, ten + nine + "m1x1"), -60);
            Due.is("61, a fault ahead", Due.hour(x, ten + nine + "mmm1"), -59);
            Due.is("none was done", x.count(1), 0);
            Due.is("60", Due.hour(x, ten + nine + "m10"), 20);
            Due.is("29 MINUTES", x.count(1), 29);
        });
    }

    private static void undo() {
        Due.says(17, "The latest yawn(), away(), minute(), minutes(), hour()", () -> {
            StartedByAYawn x = Due.lake(THREE);
            x.yawn(0, 0);
            x.away(2);
            x.minute();
            x.minutes(3);
            Due.hour(x, "m9");
            Due.is("five", x.count(8), 5);
            int[] now = {4, 1, 0, 0, 0};
            int[] away = {4, 4, 4, 0, 0};
            int[] has = {1, 2, 1, 1, 0};
            for (int k = 0; k < 5; k++) {
                x.undo();
                Due.is("NOW", x.count(1), now[k]);
                Due.is("AWAY", x.count(3), away[k]);
                Due.is("DUE", x.count(4), has[k]);
            }
            x.set(0, 0, 1);
            x.sheet(2, 3, 1, 1);
            x.judges(1);
            x.crew(0, 0, 0);
            x.seen(0, 0);
            Due.is("no others", x.count(8), 0);
        });
        Due.says(17, "(of 12 that are kept, the latest ones;", () -> {
            StartedByAYawn x = Due.lake(THREE);
            for (int k = 1; k <= 40; k++) {
                x.minute();
                Due.is("kept behind " + k, x.count(8), Math.min(k, 12));
            }
            for (int k = 11; k >= 0; k--) {
                x.undo();
                Due.is("NOW", x.count(1), 28 + k);
            }
            Due.refused("the thirteenth", x, x::undo);
            x.minute();
            Due.is("one more", x.undo(), 0);
        });
        Due.says(17, "such as were not refused;", () -> {
            StartedByAYawn x = Due.lake(THREE);
            x.yawn(0, 0);
            x.yawn(0, 0);
            x.yawn(5, 0);
            x.away(5);
            x.minutes(301);
            Due.hour(x, "x");
            Due.hour(x, "yi");
            Due.is("one", x.count(8), 1);
            x.undo();
            Due.is("it is undone", x.count(4), 0);
            for (int k = 0; k < 12; k++) {
                x.minute();
            }
            Due.hour(x, "yi");
            x.yawn(5, 0);
            Due.is("twelve", x.undo(), 11);
            for (int k = 10; k >= 0; k--) {
                Due.is("none of them is lost", x.undo(), k);
            }
            Due.is("the first of them is undone", x.count(1), 0);
        });
        Due.says(17, "minutes() of 1 and more, hour() of which one ACT was done, as one)", () -> {
            StartedByAYawn x = Due.lake(THREE);
            x.minutes(0);
            Due.is("minutes(0)", x.count(8), 0);
            x.minutes(1);
            Due.is("minutes(1)", x.count(8), 1);
            x.minutes(300);
            Due.is("minutes(300)", x.count(8), 2);
            Due.hour(x, "");
            Due.is("no ACT", x.count(8), 2);
            Due.hour(x, "yi;m1");
            Due.is("no ACT done", x.count(8), 2);
            Due.hour(x, "m0");
            Due.is("one ACT, of no MINUTES", x.count(8), 3);
            Due.hour(x, "ya;yi;m1");
            Due.is("one ACT of three", x.count(8), 4);
            Due.hour(x, "m9;m9;aa");
            Due.is("three ACTS", x.count(8), 5);
            Due.is("as one", x.undo(), 4);
            Due.is("NOW", x.count(1), 301);
            x.undo();
            Due.is("as one", x.undo(), 2);
            Due.is("as one", x.undo(), 1);
            Due.is("NOW", x.count(1), 1);
        });
    }

    private static void undoBringsBack() {
        Due.says(17, "is undone (NOW, TIRED, how often, DUE, who is AWAY, THE BOOK are as ahead of it):", () -> {
            StartedByAYawn x = Due.lake(THREE);
            x.judges(3);
            x.yawn(0, 1);
            x.minute();
            x.away(2);
            Due.text(x, "");
            String[] acts = {"m30;ac;ta9", "ya;m30;ac", "fa;ab;m9", "ac;yc;m1"};
            for (String act : acts) {
                int kept = x.count(8);
                String before = Due.stateOf(x);
                Due.hour(x, act);
                Due.is(act + " does something", Due.stateOf(x).equals(before), false);
                Due.is(act + " is undone", x.undo(), kept);
                Due.is(act + ": all is as it was", Due.stateOf(x).equals(before), true);
            }
            x.minutes(10);
            x.set(0, 0, 1);
            x.set(0, 1, 9);
            x.set(0, 2, 4);
            x.undo();
            Due.is("TIRED is as ahead of it", x.face(0, 0), 4);
            Due.is("DELAY stays", x.face(0, 1), 9);
            Due.is("whom it SEES stays", x.face(0, 2), 4);
            Due.is("JUDGES stay", x.count(2), 3);
            StartedByAYawn y = Due.lake("0/1;0/1>a", "1");
            for (int k = 0; k < 7; k++) {
                Due.hour(y, "fa;m2;ya;m2;yb;m1;ya;m2;ya;m2;ya;m2;ya;m2;ya;m2;ya;m2;ya;m2");
            }
            Due.is("THE BOOK is full", y.count(5), 60);
            String known = Due.bookOf(y);
            y.minutes(1);
            Due.hour(y, "yb;m1;fb;m1;ya;m2;fb;m1;yb;m1;fb;m1");
            Due.is("it is another", Due.bookOf(y).equals(known), false);
            y.undo();
            y.undo();
            Due.is("the whole BOOK is as it was", Due.bookOf(y).equals(known), true);
        });
        Due.says(17, "how many are left that can be.", () -> {
            StartedByAYawn x = Due.lake(THREE);
            x.minute();
            x.yawn(0, 0);
            x.away(0);
            for (int k = 2; k >= 0; k--) {
                Due.is("left", x.undo(), k);
                Due.is("count(8)", x.count(8), k);
            }
        });
        Due.says(17, "Refused: none.", () -> {
            StartedByAYawn x = Due.lake(THREE);
            x.catchers(0, 0);
            Due.refused("at first", x, x::undo);
            x.minute();
            x.undo();
            Due.refused("behind the last", x, x::undo);
            Due.is("no FACES", new StartedByAYawn().undo(), -1);
        });
    }

    private static void undoForgets() {
        Due.says(17, "(wall() and again() forget them, if they are not refused;", () -> {
            StartedByAYawn x = Due.lake(THREE);
            x.minute();
            Due.is("a wall that is wrong", Due.wall(x, "1/1;"), -5);
            Due.is("it forgets nothing", x.count(8), 1);
            Due.wall(x, "1/1");
            Due.is("a wall forgets", x.count(8), 0);
            Due.refused("none is left", x, x::undo);
            x.minute();
            x.again(0);
            x.again(2);
            Due.is("again() refused forgets nothing", x.count(8), 1);
            x.keep(0);
            Due.is("keep() forgets nothing", x.count(8), 1);
            x.again(0);
            Due.is("again() forgets", x.count(8), 0);
            Due.refused("none is left", x, x::undo);
            x.minute();
            Due.wall(x, "1/1");
            x.minute();
            x.again(0);
            Due.is("again() refused, for FACES came, forgets nothing", x.count(8), 1);
        });
        Due.says(17, "an empty wall() does not.)", () -> {
            StartedByAYawn x = Due.lake(THREE);
            x.minute();
            Due.is("an empty one", Due.wall(x, ""), 0);
            Due.is("it is there", x.count(8), 1);
            Due.is("it is undone", x.undo(), 0);
            Due.is("NOW", x.count(1), 0);
        });
    }

    private static void book() {
        String all = "of yawns: a meant and seen, c meant, b by a";
        Due.says(18, "Of yawn i of THE BOOK (0 .., the first known first), what 0: MINUTE, 1: FACE, 2: CAUSE (NONE), 3: 1 if it was meant,", () -> {
            StartedByAYawn x = Due.lake(THREE);
            Due.hour(x, "fa;fc;m4");
            int[][] due = {{0, 0, -1, 1}, {0, 2, -1, 1}, {3, 1, 0, 0}};
            for (int i = 0; i < due.length; i++) {
                for (int what = 0; what < 4; what++) {
                    Due.is(all + ", book(" + i + ", " + what + ")", x.book(i, what), due[i][what]);
                }
            }
            StartedByAYawn y = Due.lake("0/1");
            for (int k = 0; k < 7; k++) {
                Due.hour(y, "ya;m1;ya;m1;ya;m1;ya;m1;ya;m1;ya;m1;ya;m1;ya;m1;ya;m1;ya;m1");
            }
            Due.is("60", y.count(5), 60);
            for (int i = 0; i < 60; i++) {
                Due.is("the first known first", y.book(i, 0), 10 + i);
            }
            y.undo();
            Due.is("the first is known again", y.book(0, 0), 0);
        });
        Due.says(18, "4: 1 if it is FALSE, by JUDGES as they stand.", () -> {
            StartedByAYawn x = Due.lake(THREE);
            Due.hour(x, "fa;fc;yb;m1");
            Due.is("no JUDGES", x.book(0, 4), 0);
            x.judges(4);
            Due.is("a is seen", x.book(0, 4), 1);
            Due.is("b is seen, but true", x.book(1, 4), 0);
            Due.is("c is not seen", x.book(2, 4), 0);
            x.set(2, 2, 2);
            Due.is("a is not seen any more", x.book(0, 4), 0);
            x.set(0, 2, 4);
            x.judges(1);
            Due.is("c is seen", x.book(2, 4), 1);
        });
        Due.says(18, "NoSuchElementException: none such, another what.", () -> {
            StartedByAYawn x = Due.lake(THREE);
            Due.noSuch("an empty BOOK", () -> x.book(0, 0));
            Due.hour(x, "fa;m1");
            int[][] bad = {{1, 0}, {-1, 0}, {60, 0}, {0, 5}, {0, -1}, {1, 5}, {Integer.MAX_VALUE, 0}, {Integer.MIN_VALUE, 0},
                {0, Integer.MAX_VALUE}, {0, Integer.MIN_VALUE}};
            for (int[] b : bad) {
                Due.noSuch("book(" + b[0] + ", " + b[1] + ")", () -> x.book(b[0], b[1]));
            }
            for (int k = 0; k < 7; k++) {
                Due.hour(x, "ya;m1;ya;m1;ya;m1;ya;m1;ya;m1;ya;m1;ya;m1;ya;m1;ya;m1;ya;m1");
            }
            Due.noSuch("the 61st", () -> x.book(60, 0));
            Due.is("the 60th", x.book(59, 1), 0);
        });
    }

    private static void back() {
        Due.says(19, "Yawn i of THE BOOK led back: from it to the latest yawn of its CAUSE ahead of that MINUTE, and so on,", () -> {
            StartedByAYawn x = Due.lake("5/1>b;5/1>a;5/4>a", "1");
            x.yawn(0, 0);
            x.minutes(5);
            Due.is("c yawns by a of MINUTE 0", x.book(5, 0) * 100 + x.book(5, 1) * 10 + x.book(5, 2), 420);
            Due.asks("a of MINUTE 2, b, a of MINUTE 0; not a of MINUTE 4", x, () -> x.back(5), 3);
            Due.row("to a of MINUTE 0", x, 0, 1);
            Due.is("a of MINUTE 4", x.back(4), 4);
            Due.row("to a of MINUTE 0", x, 0, 1);
        });
        Due.says(19, "to one without CAUSE (0: it has none);", () -> {
            StartedByAYawn x = Due.lake("5/2;5/3>a;5/1>b;5/1>d", "1");
            x.yawn(0, 0);
            x.minutes(9);
            Due.told("a itself", x, x.back(0), 0, 0, 1);
            Due.told("b", x, x.back(1), 1, 0, 1);
            Due.told("c", x, x.back(2), 2, 0, 1);
            StartedByAYawn y = Due.lake("9/1;5/1;5/3>ab", "1");
            y.minute();
            Due.told("of itself, TIRED 9", y, y.back(0), 0, 0, 1);
            y.minute();
            y.yawn(0, 0);
            y.minute();
            Due.is("c by a of MINUTE 0", y.minutes(1), 1);
            Due.told("a of MINUTE 2 has no CAUSE", y, y.back(2), 1, 0, 1);
        });
        Due.says(19, "how many FACES behind it;", () -> {
            StartedByAYawn x = Due.lake("5/1>i;5/1>a;5/1>b;5/1>c;5/1>d;5/1>e;5/1>f;5/1>g;5/1>h", "1");
            x.yawn(0, 0);
            x.minutes(12);
            for (int i = 0; i < 12; i++) {
                Due.is("yawn " + i, x.back(i), i);
            }
            Due.row("round once and back", x, 0, 1);
        });
        Due.says(19, "NONE: none such.", () -> {
            StartedByAYawn x = Due.lake(THREE);
            x.catchers(0, 0);
            Due.refused("an empty BOOK", x, () -> x.back(0));
            x.yawn(0, 0);
            x.minute();
            for (int i : new int[] {1, -1, 60, Integer.MAX_VALUE, Integer.MIN_VALUE}) {
                Due.refused("back(" + i + ")", x, () -> x.back(i));
            }
        });
    }

    /** a yawns, b catches it and yawns 9 MINUTES later, c then 1 later; in all MINUTES between all others yawn. */
    private static StartedByAYawn longAgo() {
        StartedByAYawn x = Due.lake("5/1;5/9>a;5/1>b;5/1;5/1;5/1;5/1;5/1;5/1", "1");
        x.yawn(0, 0);
        for (int k = 0; k < 9; k++) {
            Due.is("all others", Due.hour(x, "yd;ye;yf;yg;yh;yi;m1"), 7);
        }
        Due.is("and once more", Due.hour(x, "yd;ye;yf;yg;yh;yi;m2"), 7);
        return x;
    }

    private static void backBeyondTheBook() {
        Due.says(19, "a CAUSE of whom THE BOOK has no such yawn any more counts yet, and is the last:", () -> {
            StartedByAYawn x = longAgo();
            Due.is("c yawns at the end", x.book(59, 1), 2);
            Due.is("ahead of it i, .. d, b", x.book(52, 1), 1);
            Due.is("b is by a", x.book(52, 2), 0);
            Due.told("b has a behind it", x, x.back(52), 1, 0, 0);
            Due.told("c has b and a behind it", x, x.back(59), 2, 0, 0);
            x.undo();
            Due.is("THE BOOK has a's yawn yet", x.book(0, 1), 0);
        });
        Due.says(19, "the ROW: the last FACE, 1 if its yawn is in THE BOOK and has no CAUSE, else 0.", () -> {
            StartedByAYawn x = longAgo();
            x.ahead(0);
            Due.told("it is not", x, x.back(52), 1, 0, 0);
            Due.told("it is", x, x.back(58), 0, 8, 1);
            x.yawn(0, 0);
            x.minutes(11);
            Due.told("it is, of c", x, x.back(59), 2, 0, 1);
            StartedByAYawn z = Due.lake("5/1;5/1;5/9>b;5/1;5/1;5/1;5/1;5/1;5/1", "1");
            z.yawn(1, 0);
            for (int k = 0; k < 9; k++) {
                Due.hour(z, "yd;ye;yf;yg;yh;yi;ya;m1");
            }
            z.minute();
            Due.told("c has b behind it", z, z.back(59), 1, 1, 0);
            StartedByAYawn y = longAgo();
            y.yawn(0, 0);
            y.minute();
            Due.told("a's later yawn is not ahead of it", y, y.back(51), 1, 0, 0);
        });
    }
}
