/** Promises 1 to 10: the wall. */
public final class WallTest {
    private static final String LINE = "1/1>abcdefghi;";

    public static void main(String[] args) {
        aNewObject();
        sign();
        end();
        wall();
        wallsEnds();
        wind();
        ruleFaults();
        ruleSums();
        ruleThings();
        face();
        set();
        sheet();
        judges();
        Due.end();
    }

    private static void aNewObject() {
        StartedByAYawn x = new StartedByAYawn();
        for (int what = 0; what < 12; what++) {
            Due.is("new: count(" + what + ")", x.count(what), 0);
        }
        Due.noSuch("new: face(0, 0)", () -> x.face(0, 0));
        Due.noSuch("new: row(0)", () -> x.row(0));
        Due.is("new: minute()", x.minute(), 0);
        Due.is("new: count(1) behind minute()", x.count(1), 1);
    }

    private static void sign() {
        StartedByAYawn x = new StartedByAYawn();
        for (int k = 1; k <= 20; k++) {
            Due.is("sign " + k, x.sign(0x31323334), 4 * k);
        }
        Due.is("sign: more than 80", x.sign(0), -1);
        Due.is("sign: 80 stay", x.count(11), 80);
        x.end(77);
        Due.is("sign: 81", x.sign(0), -1);
        x.end(76);
        Due.is("sign: 80 just so", x.sign(0), 80);
        x.end(4);
        Due.is("sign: highest byte first", x.wind(), 4);
        Due.wall(x, "5/1>b;5/1>a");
        Due.rule(x, "w=1");
        Due.is("sign: its first digit is 1", x.catchers(0, 0), 2);
        x.sign(-1);
        Due.is("sign: a byte above 127 can't stand in a wall", x.wall(), -1);
    }

    private static void end() {
        StartedByAYawn x = new StartedByAYawn();
        Due.is("end(0) of none", x.end(0), true);
        Due.is("end(1) of none", x.end(1), false);
        x.sign(0x31323334);
        Due.is("end(-1)", x.end(-1), false);
        Due.is("end(5) of 4", x.end(5), false);
        Due.is("end: nothing changes", x.count(11), 4);
        Due.is("end(4) of 4", x.end(4), true);
        Due.is("end(3) of 4", x.end(3), true);
        Due.is("end: 3", x.count(11), 3);
        Due.is("end(4) of 3", x.end(4), false);
    }

    private static void wall() {
        StartedByAYawn x = new StartedByAYawn();
        Due.is("wall: empty", x.wall(), 0);
        Due.is("wall: two", Due.wall(x, "9/9>bi;0/1"), 2);
        Due.is("wall: reads THE TEXT away", x.count(11), 0);
        Due.is("wall: a third", Due.wall(x, "3/2>ac"), 1);
        Due.is("wall: FACES", x.count(0), 3);
        Due.is("wall: TIRED", x.face(2, 0), 3);
        Due.is("wall: DELAY", x.face(2, 1), 2);
        Due.is("wall: SEES, but for itself", x.face(2, 2), 1);
        Due.is("wall: SEES those that are there alone", x.face(0, 2), 2);
        String[] faulty = {"x", "5", "5/", "5/0", "5/1x", "5/1>", "5/1>;", "5/1>j", "5/1>ba", "5/1>aa", "5/1;", "5/1;;",
            "5/1>a5", ";", "5/12", "55/1", "5 /1", "/1", "5/1>A"};
        int[] at = {0, 1, 2, 2, 3, 4, 4, 4, 5, 5, 4, 4, 5, 0, 3, 1, 1, 0, 4};
        for (int i = 0; i < faulty.length; i++) {
            Due.is("wall: " + faulty[i], Due.wall(x, faulty[i]), -1 - at[i]);
            Due.is("wall: " + faulty[i] + " reads THE TEXT away", x.count(11), 0);
        }
        Due.is("wall: nothing of it comes", Due.wall(x, "5/1;5/1;x"), -9);
        Due.is("wall: nothing came", x.count(0), 3);
    }

    private static void wallsEnds() {
        String five = LINE + LINE + LINE + LINE + LINE;
        Due.is("wall: 76 signs", Due.wall(new StartedByAYawn(), five + "1/1>ab"), 6);
        Due.is("wall: 77 signs", Due.wall(new StartedByAYawn(), five + "1/1>abc"), -77);
        Due.is("wall: 76 could end, then junk", Due.wall(new StartedByAYawn(), five + "1/1>abxx"), -77);
        Due.is("wall: 76 end too early", Due.wall(new StartedByAYawn(), five + "1/1;1/"), -77);
        Due.is("wall: 76 could go on", Due.wall(new StartedByAYawn(), five + "1/1;1/1"), -77);
        Due.is("wall: a fault among 76", Due.wall(new StartedByAYawn(), five + "1/1>axb"), -76);
        StartedByAYawn x = Due.lake("1/1;1/1;1/1;1/1;1/1;1/1;1/1");
        Due.is("wall: no room", Due.wall(x, "1/1;1/1;1/1"), -9);
        Due.is("wall: no room at its end", Due.wall(x, "1/1;1/1;"), -9);
        Due.is("wall: just room", Due.wall(x, "1/1;1/1"), 2);
        Due.is("wall: an empty one on a full wall", Due.wall(x, ""), 0);
        Due.is("wall: none on a full wall", Due.wall(x, "1/1"), -1);
    }

    private static void wind() {
        StartedByAYawn x = Due.lake("5/1>b;5/1>a", "w>4");
        Due.is("wind: none", x.catchers(0, 0), 0);
        Due.is("wind: two digits", Due.wind(x, "09"), 2);
        Due.is("wind: reads THE TEXT away", x.count(11), 0);
        Due.is("wind: minute 0", x.catchers(0, 0), 0);
        x.minute();
        Due.is("wind: minute 1", x.catchers(0, 0), 2);
        Due.is("wind: a fault", Due.wind(x, "123x"), -4);
        Due.is("wind: a fault changes nothing", x.catchers(0, 0), 2);
        x.minute();
        Due.is("wind: minute 2", x.catchers(0, 0), 0);
        String forty = "9999999999999999999999999999999999999990";
        Due.is("wind: 40", Due.wind(x, forty), 40);
        Due.is("wind: minute 2 of 40", x.catchers(0, 0), 2);
        x.minutes(37);
        Due.is("wind: minute 39 of 40", x.catchers(0, 0), 0);
        x.minute();
        Due.is("wind: minute 40 of 40", x.catchers(0, 0), 2);
        Due.is("wind: 41", Due.wind(x, forty + "1"), -41);
        Due.is("wind: 41, the last one faulty", Due.wind(x, forty + "x"), -41);
        Due.is("wind: 44 and a fault", Due.wind(x, "12;" + forty), -3);
        Due.is("wind: an empty one", Due.wind(x, ""), 0);
        Due.is("wind: none again", x.catchers(0, 0), 0);
        Due.is("wind: one digit", Due.wind(x, "5"), 1);
        Due.is("wind: one digit always", x.catchers(0, 0), 2);
    }

    private static void ruleFaults() {
        StartedByAYawn x = Due.lake("5/1>b;3/1>a");
        String[] faulty = {"z", "t+", "+t", "t<y<k", "t<y=k", "(t", "()", "t)", "(((((t)))))", "1000", "tt", "t1", "1t",
            "t>>y", "*t", "t-*y", "-", "(t<y)<k>1", "1 +1", "t;", "(t)(y)", "2(t)",
            "t<", "t*", "(t=)", "((((", "t-"};
        int[] at = {0, 2, 0, 3, 3, 2, 1, 1, 4, 3, 1, 1, 1, 2, 0, 2, 1, 7, 1, 1, 3, 1, 2, 2, 3, 4, 2};
        for (int i = 0; i < faulty.length; i++) {
            Due.is("rule: " + faulty[i], Due.rule(x, faulty[i]), -1 - at[i]);
        }
        Due.is("rule: reads THE TEXT away", x.count(11), 0);
        Due.is("rule: t>3 stays, of a", x.catchers(1, 0), 1);
        Due.is("rule: t>3 stays, of b", x.catchers(0, 0), 0);
        String most = "t+1+1+1+1+1+1+1+1+1+1+1+1+1+1+1+1+1+1";
        Due.is("rule: 39 signs end too early", Due.rule(x, most + "+-"), -40);
        Due.is("rule: 40 signs end too early", Due.rule(x, most + "+1-"), -41);
        Due.is("rule: 41 signs", Due.rule(x, most + "+1-1"), -41);
        Due.is("rule: 40 could end, then junk", Due.rule(x, most + "+10zz"), -41);
        Due.is("rule: a fault among 40", Due.rule(x, most + "+z01"), -39);
        Due.is("rule: 40 just so", Due.rule(x, most + "+10"), 0);
        Due.is("rule: it catches", x.catchers(0, 0), 2);
        Due.is("rule: 0", Due.rule(x, "0"), 0);
        Due.is("rule: it catches not", x.catchers(1, 0), 0);
        Due.is("rule: an empty one", Due.rule(x, ""), 0);
        Due.is("rule: t>3 again, of a", x.catchers(1, 0), 1);
        Due.is("rule: t>3 again, of b", x.catchers(0, 0), 0);
        Due.is("rule: four in one another", Due.rule(x, "((((t))))"), 0);
        Due.is("rule: four in one another, twice", Due.rule(x, "((((t))))*((((t))))"), 0);
    }

    /** Each is true by how THE RULE counts. */
    private static void ruleSums() {
        StartedByAYawn x = Due.lake("5/1>b;3/1>a");
        String[] sums = {"1+2*3=7", "(1+2)*3=9", "2-3-4=-5", "2-(3-4)=3", "8/4*2=4", "8/(4*2)=1", "7/2=3", "-7/2=-3",
            "7/-2=-3", "5/0=0", "(3-3)/(3-3)=0", "--5=5", "---5=-5", "2--3=5", "2*-3=-6", "-2*-3=6", "-(1+1)=-2",
            "(1<2)+(2>1)+(2=2)=3", "(2<1)+(1>2)+(1=2)=0", "1+1<3", "3>1+1", "007=7", "999*999*999*3<0",
            "999*999*999*3=-999*999*999*-3", "1-2", "(2<2)=0", "(2>2)=0", "-0=0", "0-7/2=-3", "1<2=0+1-1+5=5"};
        for (int i = 0; i < sums.length - 1; i++) {
            Due.is("rule: " + sums[i], Due.rule(x, sums[i]), 0);
            Due.is("rule: it catches by " + sums[i], x.catchers(0, 0), 2);
        }
        Due.is("rule: " + sums[29], Due.rule(x, sums[29]), -4);
        Due.rule(x, "(0-999*999*999*3/1-1296041701)/(0-1)<1");
        Due.is("rule: a division that would not fit", x.catchers(0, 0) >= 0 ? 1 : 0, 1);
    }

    private static void ruleThings() {
        StartedByAYawn x = Due.lake("5/1>bc;3/1>ac;8/2>ab");
        catching(x, "t=3", 0, 0, 2);
        catching(x, "t=8", 0, 0, 4);
        catching(x, "y=5", 0, 0, 6);
        catching(x, "y=5", 1, 0, 0);
        catching(x, "i=2", 0, 0, 4);
        catching(x, "j=1", 1, 0, 5);
        catching(x, "j=1", 0, 0, 0);
        catching(x, "x", 0, 1, 6);
        catching(x, "x=1", 0, 1, 6);
        catching(x, "x=0", 0, 0, 6);
        catching(x, "x", 0, 0, 0);
        catching(x, "n=1", 0, 0, 6);
        catching(x, "m=0", 0, 0, 6);
        catching(x, "k=0", 0, 0, 6);
        x.yawn(1, 0);
        x.minute();
        catching(x, "k=1", 0, 0, 2);
        catching(x, "m=1", 0, 0, 2);
        StartedByAYawn z = Due.lake("5/1>bc;3/1>ac;8/2>ab;1/1>ab;1/1>b", "n=2");
        z.yawn(0, 0);
        z.yawn(1, 1);
        Due.is("rule: two yawn", z.minute(), 3);
        Due.row("rule: n is how many of them it sees", z, 4 + 8, 0);
        StartedByAYawn d = Due.lake("5/1;3/1>a;4/1>a;5/1>a", "y=4");
        d.yawn(0, 0);
        d.minute();
        Due.row("rule: y is less by its yawn", d, 14, 0);
    }

    private static void catching(StartedByAYawn x, String rule, int face, int meant, int want) {
        Due.rule(x, rule);
        Due.is(rule + ": catchers(" + face + ", " + meant + ")", x.catchers(face, meant), want);
    }

    private static void face() {
        StartedByAYawn x = Due.lake("5/2>b;6/3>ab;2/1");
        for (int[] bad : new int[][] {{-1, 0}, {3, 0}, {9, 0}, {0, -1}, {0, 8}, {Integer.MAX_VALUE, 0}}) {
            Due.noSuch("face(" + bad[0] + ", " + bad[1] + ")", () -> x.face(bad[0], bad[1]));
        }
        Due.is("face: TIRED", x.face(1, 0), 6);
        Due.is("face: DELAY", x.face(1, 1), 3);
        Due.is("face: SEES", x.face(1, 2), 1);
        Due.is("face: how often", x.face(1, 3), 0);
        Due.is("face: no DUE", x.face(1, 4), -1);
        Due.is("face: no CAUSE", x.face(1, 5), -1);
        Due.is("face: does not mean it", x.face(1, 6), 0);
        Due.is("face: not AWAY", x.face(1, 7), 0);
        x.yawn(0, 1);
        Due.is("face: DUE now", x.face(0, 4), 0);
        Due.is("face: DUE without CAUSE", x.face(0, 5), -1);
        Due.is("face: means it", x.face(0, 6), 1);
        x.minute();
        Due.is("face: yawned", x.face(0, 3), 1);
        Due.is("face: no DUE any more", x.face(0, 4), -1);
        Due.is("face: means nothing any more", x.face(0, 6), 0);
        Due.is("face: less TIRED", x.face(0, 0), 4);
        Due.is("face: DUE in 2 more", x.face(1, 4), 2);
        Due.is("face: its CAUSE", x.face(1, 5), 0);
        Due.is("face: a caught one is not meant", x.face(1, 6), 0);
        x.away(1);
        Due.is("face: AWAY", x.face(1, 7), 1);
        Due.is("face: AWAY without DUE", x.face(1, 4), -1);
        Due.is("face: AWAY without CAUSE", x.face(1, 5), -1);
    }

    private static void set() {
        StartedByAYawn x = Due.lake("5/2>bi;6/3>ab");
        Due.is("set: TIRED", x.set(0, 0, 9), 5);
        Due.is("set: it was", x.set(0, 0, 0), 9);
        Due.is("set: it is", x.face(0, 0), 0);
        Due.is("set: DELAY", x.set(0, 1, 9), 2);
        Due.is("set: DELAY is", x.face(0, 1), 9);
        Due.is("set: DELAY 1", x.set(0, 1, 1), 9);
        Due.is("set: DELAY was 1", x.set(0, 1, 9), 1);
        Due.is("set: SEES", x.set(1, 2, 511), 3);
        Due.is("set: SEES was", x.set(1, 2, 0), 511);
        Due.is("set: SEES is", x.face(1, 2), 0);
        int[][] refused = {{2, 0, 1}, {-1, 0, 1}, {0, -1, 1}, {0, 3, 1}, {0, 0, -1}, {0, 0, 10}, {0, 1, 0}, {0, 1, 10},
            {0, 2, -1}, {0, 2, 512}};
        for (int[] r : refused) {
            Due.is("set(" + r[0] + ", " + r[1] + ", " + r[2] + ")", x.set(r[0], r[1], r[2]), -1);
        }
        Due.is("set: refused ones change nothing", x.face(0, 0) * 10 + x.face(0, 1), 9);
        Due.wall(x, "1/1");
        x.set(0, 2, 4);
        Due.is("set: a FACE that came later", x.face(0, 2), 4);
        Due.is("set: is not undone", x.count(8), 0);
    }

    private static void sheet() {
        StartedByAYawn x = Due.lake("5/1;5/1;5/1;5/1");
        Due.is("sheet: ints", x.sheet(2, 4, 1, 2), 1 + 3 + 5 + 7);
        Due.is("sheet: ints put to 9", x.sheet(2, 4, 8, 1), 8 + 9 + 9 + 9);
        Due.is("sheet: ints put to 0", x.sheet(2, 4, -1, 1), 0 + 0 + 1 + 2);
        Due.is("sheet: those behind have 0", x.sheet(2, 2, 3, 1), 7);
        Due.is("sheet: no entries", x.sheet(2, 0, 3, 1), 0);
        Due.is("sheet: entries beyond are left aside", x.sheet(2, 9, 1, 0), 4);
        Due.is("sheet: bytes", x.sheet(0, 2, 256 + 4, 1), 9);
        Due.is("sheet: bytes with their sign", x.sheet(0, 2, 127, 1), 9);
        Due.is("sheet: shorts", x.sheet(1, 2, 65536 + 4, 1), 9);
        Due.is("sheet: shorts of 260", x.sheet(1, 1, 260, 1), 9);
        Due.is("sheet: shorts with their sign", x.sheet(1, 2, 32767, 1), 9);
        Due.is("sheet: ints of 65540", x.sheet(2, 1, 65540, 1), 9);
        Due.is("sheet: ints run over", x.sheet(2, 2, Integer.MAX_VALUE, 1), 9);
        Due.is("sheet: kind 4", x.sheet(4, 1, 1, 1), -1);
        Due.is("sheet: kind -1", x.sheet(-1, -1, 1, 1), -1);
        Due.is("sheet: 10", x.sheet(0, 10, 1, 1), -1);
        Due.is("sheet: n below 0", x.sheet(0, -1, 1, 1), -2);
        Due.is("sheet: nothing changed", x.count(6), 9);
        Due.is("sheet: a missing one, 10", x.sheet(3, 10, 1, 1), -1);
        Due.is("sheet: nothing changed by that", x.count(6), 9);
        Due.is("sheet: missing", x.sheet(3, -1, 1, 1), -3);
        Due.is("sheet: missing, all 0", x.count(6), 0);
        Due.is("sheet: of no FACES", new StartedByAYawn().sheet(2, 3, 1, 1), 0);
    }

    private static void judges() {
        StartedByAYawn x = Due.lake("5/1>bc;5/1>b;5/1>abi");
        Due.is("judges: none", x.judges(0), 0);
        Due.is("judges: by a", x.judges(1), 2);
        Due.is("judges: by b, who sees but itself", x.judges(2), 0);
        Due.is("judges: by all", x.judges(7), 3);
        Due.is("judges: count(2)", x.count(2), 7);
        Due.is("judges: none such", x.judges(8), -1);
        Due.is("judges: none such, below 0", x.judges(-1), -1);
        Due.is("judges: none such, the highest bit", x.judges(Integer.MIN_VALUE), -1);
        Due.is("judges: they stay", x.count(2), 7);
        x.away(0);
        Due.is("judges: by one that is AWAY", x.judges(1), 2);
        x.away(1);
        Due.is("judges: see one that is AWAY", x.judges(5), 3);
        Due.is("judges: of no FACES", new StartedByAYawn().judges(1), -1);
    }
}
