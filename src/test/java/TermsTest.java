/** The "Terms": FACES, THE WALL, WIND, THE RULE, how a MINUTE goes by, JUDGES, THE BOOK, CREWS, the ROW, refused calls. */
public final class TermsTest {
    private static final int TERMS = Doc.TERMS;
    private static final String FIVE = "1/1>abcdefghi;1/1>abcdefghi;1/1>abcdefghi;1/1>abcdefghi;1/1>abcdefghi;";

    public static void main(String[] args) {
        faces();
        theWall();
        theWallsLetters();
        minutesAndWind();
        expressions();
        expressionsFaults();
        things();
        thingsOfTwoYawns();
        due();
        tiredOnes();
        yawningOnes();
        catchingOnes();
        theFirstItCatchesFrom();
        allMoreTired();
        awayOnes();
        judges();
        theStart();
        theBook();
        crews();
        theRow();
        toCome();
        refusedCalls();
        noneFirst();
        theRowStays();
        Doc.quoted(TERMS, TERMS);
        Due.end();
    }

    private static void faces() {
        Due.says(TERMS, "FACES 0 .. (at most 9; written a .. i):", () -> {
            StartedByAYawn x = Due.lake("1/1;1/1;1/1;1/1;1/1;1/1;1/1;1/1;1/1");
            Due.is("nine", x.count(0), 9);
            Due.is("a tenth", Due.wall(x, "1/1"), -1);
            Due.is("nine still", x.count(0), 9);
            Due.is("a and i yawn", Due.hour(x, "ya;fi"), 2);
            Due.is("they are 0 and 8", x.count(4), 257);
            Due.is("there is no j", Due.hour(x, "yj"), -2);
        });
        Due.says(TERMS, "TIRED 0 .. 9,", () -> {
            StartedByAYawn x = Due.lake("0/1;9/1");
            Due.is("the least", x.face(0, 0), 0);
            Due.is("the most", x.face(1, 0), 9);
            x.yawn(0, 0);
            x.minute();
            Due.is("not below 0", x.face(0, 0), 0);
            x.set(1, 0, 9);
            x.away(1);
            x.minutes(9);
            Due.is("not above 9", x.face(1, 0), 9);
            Due.refused("set to -1", x, () -> x.set(0, 0, -1));
            Due.refused("set to 10", x, () -> x.set(0, 0, 10));
        });
        Due.says(TERMS, "DELAY 1 .. 9 (MINUTES)", () -> {
            StartedByAYawn x = Due.lake("5/1;5/1>a;5/9>a", "1");
            x.yawn(0, 0);
            x.minute();
            Due.is("1 MINUTE later", x.face(1, 4), 0);
            Due.is("9 MINUTES later", x.face(2, 4), 8);
            Due.refused("set to 0", x, () -> x.set(0, 1, 0));
            Due.refused("set to 10", x, () -> x.set(0, 1, 10));
            Due.is("told as 0", Due.wall(x, "5/0"), -3);
        });
        Due.says(TERMS, "whom it SEES (FACES), where it is AWAY or not (at first not).", () -> {
            StartedByAYawn x = Due.lake("5/1>b;5/1");
            Due.is("a SEES b", x.face(0, 2), 2);
            Due.is("b SEES nobody", x.face(1, 2), 0);
            Due.is("a is not AWAY", x.face(0, 7), 0);
            x.away(0);
            Due.is("a is AWAY", x.face(0, 7), 1);
            Due.wall(x, "5/1");
            Due.is("one that comes is not AWAY", x.face(2, 7), 0);
            Due.is("a alone is AWAY", x.count(3), 1);
        });
    }

    private static void theWall() {
        Due.says(TERMS, "THE WALL is a text of at most 76 signs:", () -> {
            Due.is("76", Due.wall(new StartedByAYawn(), FIVE + "1/1>ab"), 6);
            Due.is("77", Due.wall(new StartedByAYawn(), FIVE + "1/1>abc"), -77);
            Due.is("80", Due.wall(new StartedByAYawn(), FIVE + "1/1>abcdef"), -77);
        });
        Due.says(TERMS, "LINES with ; between, each a FACE more:", () -> {
            StartedByAYawn x = Due.lake("1/1;2/2");
            Due.is("two", x.count(0), 2);
            Due.is("one more", Due.wall(x, "3/3"), 1);
            Due.is("three", x.count(0), 3);
            Due.is("it comes behind", x.face(0, 0) * 100 + x.face(1, 0) * 10 + x.face(2, 0), 123);
            Due.is("a comma", Due.wall(x, "1/1,1/1"), -4);
            Due.is("nothing between", Due.wall(x, "1/11/1"), -4);
            Due.is("a ; too many between", Due.wall(x, "1/1;;1/1"), -5);
            Due.is("a ; ahead", Due.wall(x, ";1/1"), -1);
        });
        Due.says(TERMS, "TIRED (a digit), /, DELAY (a digit, not 0),", () -> {
            StartedByAYawn x = Due.lake("0/1;9/9");
            Due.is("TIRED 0, DELAY 1", x.face(0, 0) * 10 + x.face(0, 1), 1);
            Due.is("TIRED 9, DELAY 9", x.face(1, 0) * 10 + x.face(1, 1), 99);
            String[] faulty = {"/1", "a/1", ":/1", "5;1", "51", "5/0", "5/a", "5/:", "5//", "55/1", "5/12", "5 /1", " 5/1"};
            int[] at = {0, 0, 0, 1, 1, 2, 2, 2, 2, 1, 3, 1, 0};
            for (int i = 0; i < faulty.length; i++) {
                Due.is(faulty[i], Due.wall(x, faulty[i]), -1 - at[i]);
            }
        });
    }

    private static void theWallsLetters() {
        Due.says(TERMS, "perhaps > and letters a .. i", () -> {
            StartedByAYawn x = Due.lake("5/1;5/1>a;5/1>i");
            Due.is("without >", x.face(0, 2), 0);
            Due.is("with a", x.face(1, 2), 1);
            Due.is("letters without >", Due.wall(x, "5/1a"), -4);
            Due.is("j", Due.wall(x, "5/1>j"), -5);
            Due.is("the sign ahead of a", Due.wall(x, "5/1>`"), -5);
            Due.is("A", Due.wall(x, "5/1>A"), -5);
            Due.is("> twice", Due.wall(x, "5/1>>a"), -5);
            Due.is("letters, then a digit", Due.wall(x, "5/1>a5"), -6);
        });
        Due.says(TERMS, "(rising, one at least, whether there or not;", () -> {
            StartedByAYawn x = Due.lake("5/1>bi");
            Due.is("nobody of them is there", x.face(0, 2), 0);
            Due.is("eight come", Due.wall(x, "1/1;1/1;1/1;1/1;1/1;1/1;1/1;1/1"), 8);
            Due.is("b and i are there", x.face(0, 2), 2 + 256);
            Due.is("no letter", Due.wall(new StartedByAYawn(), "5/1>"), -5);
            Due.is("no letter, then a LINE", Due.wall(new StartedByAYawn(), "5/1>;5/1"), -5);
            Due.is("falling", Due.wall(new StartedByAYawn(), "5/1>ba"), -6);
            Due.is("the same twice", Due.wall(new StartedByAYawn(), "5/1>aa"), -6);
            Due.is("all nine", Due.wall(new StartedByAYawn(), "5/1>abcdefghi"), 1);
        });
        Due.says(TERMS, "itself: nothing): whom it SEES.", () -> {
            StartedByAYawn x = Due.lake("5/1>a;5/1>ab", "1");
            Due.is("a SEES nobody", x.face(0, 2), 0);
            Due.is("b SEES a", x.face(1, 2), 1);
            Due.is("who stands by a sees nobody", x.judges(1), 0);
            Due.told("nobody CATCHES one from b", x, x.catchers(1, 0), 0, 0);
            x.yawn(0, 0);
            x.minute();
            Due.row("a CATCHES none from itself", x, 2, 0);
        });
    }

    private static void minutesAndWind() {
        Due.says(TERMS, "MINUTES are counted: NOW (at first 0).", () -> {
            StartedByAYawn x = new StartedByAYawn();
            Due.is("at first", x.count(1), 0);
            x.minute();
            Due.is("behind one", x.count(1), 1);
            x.minutes(300);
            Due.is("behind 300 more", x.count(1), 301);
            Due.hour(x, "m99");
            Due.is("behind 99 more", x.count(1), 400);
        });
        Due.says(TERMS, "WIND is a text of at most 40 digits", () -> {
            StartedByAYawn x = new StartedByAYawn();
            String forty = "0123456789012345678901234567890123456789";
            Due.is("40", Due.wind(x, forty), 40);
            Due.is("41", Due.wind(x, forty + "0"), -41);
            Due.is("no digit", Due.wind(x, "12a"), -3);
            Due.is("the sign ahead of 0", Due.wind(x, "12/"), -3);
            Due.is("the sign behind 9", Due.wind(x, "12:"), -3);
        });
        Due.says(TERMS, "(at first none: 0 always):", () -> {
            StartedByAYawn x = Due.lake("5/1>b;5/1>a", "w=0");
            Due.is("in MINUTE 0", x.catchers(0, 0), 2);
            x.minutes(7);
            Due.is("in MINUTE 7", x.catchers(0, 0), 2);
        });
        Due.says(TERMS, "in MINUTE m (0 ..) the digit m % (how many).", () -> {
            StartedByAYawn x = Due.lake("0/1>b;0/1>a", "w=7");
            Due.wind(x, "127");
            for (int m = 0; m < 9; m++) {
                Due.is("7 in MINUTE " + m, x.catchers(0, 0), m % 3 == 2 ? 2 : 0);
                x.minute();
            }
            Due.wind(x, "7");
            Due.is("of one digit", x.catchers(0, 0), 2);
            Due.wind(x, "0000000000000000000000000000000000000007");
            x.minutes(30);
            Due.is("the last of 40, in MINUTE 39", x.catchers(0, 0), 2);
            x.minute();
            Due.is("the first again, in MINUTE 40", x.catchers(0, 0), 0);
        });
    }

    /** b has TIRED 3 and SEES a, who has TIRED 5: whether b CATCHES one by a rule. */
    private static void holds(String rule, boolean want) {
        StartedByAYawn x = Due.lake("5/1>b;3/1>a");
        Due.is("rule " + rule, Due.rule(x, rule), 0);
        Due.is("b CATCHES by " + rule, x.catchers(0, 0), want ? 2 : 0);
    }

    private static void cannot(String rule, int at) {
        Due.is("rule " + rule, Due.rule(new StartedByAYawn(), rule), -1 - at);
    }

    private static void expressions() {
        Due.says(TERMS, "THE RULE is a text of at most 40 signs (at first none: t>3).", () -> {
            String most = "1+1+1+1+1+1+1+1+1+1+1+1+1+1+1+1+1+1+1+10";
            Due.is("40", Due.rule(new StartedByAYawn(), most), 0);
            Due.is("41", Due.rule(new StartedByAYawn(), most + "0"), -41);
            StartedByAYawn x = Due.lake("5/1;3/1>a;4/1>a");
            Due.is("TIRED 4 CATCHES, 3 not", x.catchers(0, 0), 4);
        });
        Due.says(TERMS, "EXPRESSION: < > = bind least (two; 1 or 0;", () -> {
            holds("2-2>1", false);
            holds("0*1<2", true);
            holds("1-1=0", true);
            holds("(1<2)=1", true);
            holds("(2<1)=0", true);
            holds("(2<2)=0", true);
            holds("(2>1)=1", true);
            holds("(1>2)=0", true);
            holds("(2>2)=0", true);
            holds("(2=2)=1", true);
            holds("(1=2)=0", true);
            cannot("<2", 0);
            cannot("2<", 2);
        });
        Due.says(TERMS, "not one behind the other),", () -> {
            cannot("t<y<k", 3);
            cannot("t=y>k", 3);
            cannot("t>y=1+1", 3);
            cannot("(t<y<k)", 4);
            cannot("t>>y", 2);
            Due.is("but in ( )", Due.rule(new StartedByAYawn(), "(t<y)>(y=k)"), 0);
            Due.is("in ( ), then one more", Due.rule(new StartedByAYawn(), "(t<y)+1>(y=k)*2"), 0);
        });
        Due.says(TERMS, "then + - (from the left),", () -> {
            holds("2-3-4=-5", true);
            holds("2-3+4=3", true);
            holds("2+3*4=14", true);
            holds("20-6/2=17", true);
            cannot("+t", 0);
            cannot("t+", 2);
        });
        Due.says(TERMS, "then * / (from the left; by 0: 0; cut to 0),", () -> {
            holds("8/4*2=4", true);
            holds("7*2/4=3", true);
            holds("24/4/2=3", true);
            holds("5/0=0", true);
            holds("5/(t-3)=0", true);
            holds("0/0=0", true);
            holds("7/2=3", true);
            holds("-7/2=-3", true);
            holds("7/-2=-3", true);
            holds("-7/-2=3", true);
            cannot("t*", 2);
            cannot("/t", 0);
        });
        Due.says(TERMS, "then - ahead of a thing (any many);", () -> {
            holds("--5=5", true);
            holds("---5=-5", true);
            holds("2*-3=-6", true);
            holds("2--3=5", true);
            holds("2---3=-1", true);
            holds("-(1+1)=-2", true);
            holds("-3+5=2", true);
            holds("0-------------------------------------1", true);
            cannot("-", 1);
            cannot("t-", 2);
            cannot("t-*y", 2);
        });
    }

    private static void expressionsFaults() {
        Due.says(TERMS, "things: a NUMBER of 1 to 3 digits,", () -> {
            holds("7=007", true);
            holds("07=7", true);
            holds("999=998+1", true);
            holds("100*10-1=999", true);
            cannot("1000", 3);
            cannot("0007", 3);
            cannot("12t", 2);
            cannot("t1", 1);
            cannot("1 2", 1);
        });
        Due.says(TERMS, "an EXPRESSION in ( ) (at most 4 in one another),", () -> {
            holds("((((t))))=3", true);
            holds("((((t))))*((((t))))=9", true);
            holds("2*(1+2)=6", true);
            cannot("(((((t)))))", 4);
            cannot("t+(((((t)))))", 6);
            cannot("()", 1);
            cannot("(t", 2);
            cannot("((t)", 4);
            cannot("t)", 1);
            cannot("(t)(y)", 3);
            cannot("2(t)", 1);
            cannot("(t=)", 3);
        });
        Due.says(TERMS, "As ints.", () -> {
            holds("999*999*999*3<0", true);
            holds("999*999*999*3=-(999*999*999*-3)", true);
            holds("512*512*512*16<0", true);
            holds("512*512*512*16-1>0", true);
            holds("512*512*512*16/-1<0", true);
            holds("-(512*512*512*16)<0", true);
            holds("512*512*512*32=0", true);
        });
        Due.says(TERMS, "It CATCHES, if that is not 0.", () -> {
            holds("1", true);
            holds("2", true);
            holds("0-1", true);
            holds("-1", true);
            holds("0", false);
            holds("-0", false);
            holds("5-5", false);
        });
    }

    private static void catching(StartedByAYawn x, String rule, int face, int meant, int want) {
        Due.is("rule " + rule, Due.rule(x, rule), 0);
        Due.is("by " + rule + " CATCH one from " + face, x.catchers(face, meant), want);
    }

    private static void things() {
        String wall = "5/1>bc;3/1>ac;8/2>ab";
        Due.says(TERMS, "of a FACE that SEES one that yawns: t TIRED,", () -> {
            catching(Due.lake(wall), "t=3", 0, 0, 2);
            catching(Due.lake(wall), "t=8", 0, 0, 4);
            catching(Due.lake(wall), "t=5", 0, 0, 0);
        });
        Due.says(TERMS, "y TIRED of that one,", () -> {
            catching(Due.lake(wall), "y=5", 0, 0, 6);
            catching(Due.lake(wall), "y=5", 1, 0, 0);
            catching(Due.lake(wall), "y=3", 1, 0, 5);
        });
        Due.says(TERMS, "k how often it yawned itself,", () -> {
            StartedByAYawn x = Due.lake(wall);
            catching(x, "k=0", 0, 0, 6);
            x.yawn(1, 0);
            x.minute();
            catching(x, "k=1", 0, 0, 2);
            catching(x, "k=1", 1, 0, 0);
        });
        Due.says(TERMS, "w WIND,", () -> {
            StartedByAYawn x = Due.lake(wall);
            Due.wind(x, "49");
            catching(x, "w=4", 0, 0, 6);
            x.minute();
            catching(x, "w=9", 0, 0, 6);
        });
        Due.says(TERMS, "m the MINUTE,", () -> {
            StartedByAYawn x = Due.lake(wall);
            catching(x, "m=0", 0, 0, 6);
            x.minutes(12);
            catching(x, "m=12", 0, 0, 6);
        });
        Due.says(TERMS, "i its number,", () -> {
            catching(Due.lake(wall), "i=2", 0, 0, 4);
            catching(Due.lake(wall), "i=0", 0, 0, 0);
        });
        Due.says(TERMS, "j that one's,", () -> {
            catching(Due.lake(wall), "j=1", 1, 0, 5);
            catching(Due.lake(wall), "j=1", 0, 0, 0);
        });
        Due.says(TERMS, "x 1 if that one means it.", () -> {
            catching(Due.lake(wall), "x=1", 0, 1, 6);
            catching(Due.lake(wall), "x=0", 0, 0, 6);
            catching(Due.lake(wall), "x", 0, 0, 0);
        });
    }

    private static void thingsOfTwoYawns() {
        Due.says(TERMS, "n how many it SEES yawn in this MINUTE,", () -> {
            catching(Due.lake("5/1;5/1>a"), "n=1", 0, 0, 2);
            StartedByAYawn x = Due.lake("5/1;5/1;5/1>a;5/1>ab;5/1>ab;5/1>abc", "n=2");
            x.yawn(0, 0);
            x.yawn(1, 0);
            Due.is("a and b", x.minute(), 3);
            Due.row("who SEES two", x, 8 + 16 + 32, 0);
        });
    }

    private static void due() {
        Due.says(TERMS, "A FACE that will yawn has DUE: the MINUTE, CAUSE (a FACE, or NONE), and means it, or not.", () -> {
            StartedByAYawn x = Due.lake("5/1;5/4>a;5/1", "1");
            Due.is("nobody has", x.count(4), 0);
            x.yawn(0, 1);
            Due.is("a has", x.count(4), 1);
            Due.is("now", x.face(0, 4), 0);
            Due.is("without CAUSE", x.face(0, 5), -1);
            Due.is("and means it", x.face(0, 6), 1);
            x.minute();
            Due.is("b has", x.count(4), 2);
            Due.is("in MINUTE 4", x.face(1, 4), 3);
            Due.is("from a", x.face(1, 5), 0);
            Due.is("and does not mean it", x.face(1, 6), 0);
        });
    }

    private static void tiredOnes() {
        Due.says(TERMS, "A MINUTE goes by, of FACES that are not AWAY:", () -> {
            StartedByAYawn x = Due.lake("9/1;9/1>a;9/1", "1");
            x.away(0);
            Due.is("b and c", x.minute(), 6);
            Due.is("a stays as TIRED", x.face(0, 0), 9);
        });
        Due.says(TERMS, "(1) each with TIRED 9 and no DUE has DUE in this MINUTE, without CAUSE, and does not mean it.", () -> {
            StartedByAYawn x = Due.lake("9/1;9/1;8/1;9/1");
            x.yawn(1, 1);
            Due.is("TIRED 9", x.minute(), 11);
            Due.is("without CAUSE", x.book(0, 2), -1);
            Due.is("a does not mean it", x.book(0, 3), 0);
            Due.is("b has DUE and means it", x.book(1, 3), 1);
            Due.is("d does not mean it", x.book(2, 3), 0);
            StartedByAYawn y = Due.lake("5/1;8/9>a", "1");
            y.yawn(0, 0);
            y.minute();
            y.set(1, 0, 9);
            Due.is("TIRED 9 and DUE later", y.minutes(8), 0);
            Due.is("DUE", y.minute(), 2);
            Due.is("its CAUSE is as it was", y.book(1, 2), 0);
        });
    }

    private static void yawningOnes() {
        Due.says(TERMS, "(2) All whose DUE is this MINUTE yawn: TIRED is 1 less (0 at least), they have no DUE.", () -> {
            StartedByAYawn x = Due.lake("5/1;0/1;5/2>a;5/1", "t=5");
            x.yawn(0, 0);
            x.yawn(1, 0);
            Due.is("a and b", x.minute(), 3);
            Due.is("1 less", x.face(0, 0), 4);
            Due.is("0 at least", x.face(1, 0), 0);
            Due.is("c alone has DUE", x.count(4), 4);
            Due.is("not in this MINUTE", x.minute(), 0);
            Due.is("c is as TIRED", x.face(2, 0), 5);
            Due.is("but in this", x.minute(), 4);
            Due.is("c is less TIRED", x.face(2, 0), 4);
            Due.is("nobody has DUE", x.count(4), 0);
            Due.is("who does not is as TIRED", x.face(3, 0), 5);
            Due.is("and did not", x.face(3, 3), 0);
        });
    }

    private static void catchingOnes() {
        Due.says(TERMS, "(3) By numbers, each that does not yawn in it, has no DUE and SEES some that do:", () -> {
            StartedByAYawn x = Due.lake("5/1>b;5/1>a;5/1>a;5/1", "1");
            x.yawn(0, 0);
            x.yawn(1, 0);
            x.minute();
            Due.row("who yawns CATCHES none, nor does who SEES none", x, 4, 0);
            StartedByAYawn y = Due.lake("5/1;5/9>ac;5/1", "1");
            y.yawn(0, 0);
            y.minute();
            y.yawn(2, 0);
            y.minute();
            Due.row("who has DUE CATCHES none", y, 0, 0);
            Due.is("b's CAUSE is a", y.face(1, 5), 0);
            Due.is("b is DUE in MINUTE 9", y.face(1, 4), 7);
        });
        Due.says(TERMS, "DUE is DELAY MINUTES later, and it does not mean it", () -> {
            StartedByAYawn x = Due.lake("5/1;5/3>a", "1");
            x.minutes(4);
            x.yawn(0, 1);
            x.minute();
            Due.is("MINUTE 7", x.face(1, 4), 2);
            Due.is("from one that is meant", x.face(1, 6), 0);
            x.minutes(3);
            Due.is("it yawned in MINUTE 7", x.book(1, 0), 7);
            Due.is("not meant", x.book(1, 3), 0);
        });
        Due.says(TERMS, "(TIRED of all as behind (2)).", () -> {
            StartedByAYawn x = Due.lake("5/1;3/1>a;4/1>a", "y=4");
            x.yawn(0, 0);
            x.minute();
            Due.row("of who yawns: 1 less", x, 6, 0);
            StartedByAYawn y = Due.lake("5/1;3/1>a;4/1>a", "t=3");
            y.minutes(9);
            y.yawn(0, 0);
            y.minute();
            Due.row("ahead of (4)", y, 2, 0);
            StartedByAYawn z = Due.lake("0/1;3/1>a", "y=0");
            z.yawn(0, 0);
            z.minute();
            Due.row("0 at least", z, 2, 0);
        });
    }

    private static void theFirstItCatchesFrom() {
        Due.says(TERMS, "by numbers of these, the first it CATCHES from is CAUSE:", () -> {
            StartedByAYawn x = Due.lake("5/1;5/1;5/1;5/1>abc;5/1>bc", "1");
            Due.hour(x, "ya;yb;yc;m1");
            Due.is("the first", x.face(3, 5), 0);
            Due.is("the first it SEES", x.face(4, 5), 1);
            StartedByAYawn y = Due.lake("5/1;5/1;5/1;5/1>abc;5/1>ac", "j");
            Due.hour(y, "ya;yb;yc;m1");
            Due.is("the first it CATCHES from", y.face(3, 5), 1);
            Due.is("the only one it CATCHES from", y.face(4, 5), 2);
            StartedByAYawn z = Due.lake("5/1;5/1;5/1>ab", "x");
            Due.hour(z, "ya;fb;m1");
            Due.is("the first that means it", z.face(2, 5), 1);
        });
    }

    private static void allMoreTired() {
        Due.says(TERMS, "(4) If the MINUTE's number and 1 can be divided by 10, all are 1 more TIRED (9 at most).", () -> {
            StartedByAYawn x = Due.lake("0/1;3/1;8/1;7/1");
            x.minutes(9);
            Due.is("behind MINUTE 8", x.count(6), 18);
            x.yawn(3, 0);
            x.minute();
            Due.is("behind MINUTE 9", x.count(6), 21);
            Due.is("who yawned in it, too", x.face(3, 0), 7);
            Due.is("9", x.face(2, 0), 9);
            x.set(0, 0, 9);
            x.away(0);
            x.minutes(9);
            Due.is("behind MINUTE 18", x.face(1, 0), 4);
            x.minute();
            Due.is("behind MINUTE 19", x.face(1, 0), 5);
            Due.is("9 at most", x.face(0, 0), 9);
        });
        Due.says(TERMS, "NOW is 1 more.", () -> {
            StartedByAYawn x = Due.lake("9/1");
            x.minute();
            Due.is("one", x.count(1), 1);
            x.minute();
            Due.is("two", x.count(1), 2);
        });
    }

    private static void awayOnes() {
        Due.says(TERMS, "One that is AWAY has no DUE, yawns and CATCHES not, is not seen; it gets TIRED by (4).", () -> {
            StartedByAYawn x = Due.lake("9/1>b;9/1>a;5/1>ab", "1");
            x.yawn(0, 1);
            x.away(0);
            Due.is("no DUE", x.count(4), 0);
            Due.is("and means nothing", x.face(0, 6), 0);
            Due.is("it yawns not", x.minute(), 2);
            Due.row("it CATCHES not", x, 4, 0);
            StartedByAYawn y = Due.lake("5/1;5/1>a;5/1>b", "1");
            y.yawn(0, 0);
            y.away(0);
            y.minutes(3);
            Due.is("it is not seen", y.count(4), 0);
            y.away(2);
            y.minutes(7);
            Due.is("it gets TIRED", y.face(0, 0), 6);
            Due.is("as who is not AWAY", y.face(1, 0), 6);
            Due.is("and one more", y.face(2, 0), 6);
        });
    }

    private static void judges() {
        Due.says(TERMS, "JUDGES stand by FACES (a set; at first none):", () -> {
            StartedByAYawn x = Due.lake("5/1>b;5/1>c;5/1");
            Due.is("none", x.count(2), 0);
            x.yawn(1, 1);
            Due.is("nobody is seen", x.start(), 0);
            x.judges(5);
            Due.is("by a and c", x.count(2), 5);
            x.judges(2);
            Due.is("by b alone", x.count(2), 2);
        });
        Due.says(TERMS, "they see whom these SEE (also if that FACE is AWAY).", () -> {
            StartedByAYawn x = Due.lake("5/1>b;5/1;5/1");
            Due.is("one", x.judges(1), 1);
            Due.hour(x, "fa;fb;fc;m1");
            Due.is("not a, by whom they stand", x.book(0, 4), 0);
            Due.is("b", x.book(1, 4), 1);
            Due.is("not c", x.book(2, 4), 0);
            x.away(0);
            Due.is("a is AWAY", x.book(1, 4), 1);
            x.yawn(1, 1);
            x.minute();
            Due.row("FALSE in this MINUTE", x, 0, 2);
        });
        Due.says(TERMS, "A yawn is FALSE, if it is meant and a JUDGE sees it.", () -> {
            StartedByAYawn x = Due.lake("5/1>bc;5/1;5/1;5/1");
            x.judges(1);
            Due.hour(x, "fb;yc;fd");
            Due.told("c, true and seen", x, x.start(), 0, 2, 1);
            Due.is("all three", x.minute(), 2 + 4 + 8);
            Due.row("b's alone is FALSE", x, 1, 2);
            Due.is("meant and seen", x.book(0, 4), 1);
            Due.is("true and seen", x.book(1, 4), 0);
            Due.is("meant and not seen", x.book(2, 4), 0);
        });
    }

    private static void theStart() {
        Due.says(TERMS, "THE START: the first yawn that is not FALSE.", () -> {
            StartedByAYawn x = Due.lake("5/1>bcd;5/2>d;5/1;5/1", "i=1");
            x.judges(1);
            Due.hour(x, "fc;fd");
            Due.told("b, by d", x, x.start(), 2, 1, 2);
            x.yawn(0, 1);
            Due.told("a, whom nobody sees", x, x.start(), 0, 0, 0);
            Due.is("three", x.minutes(1), 3);
            Due.row("in the first", x, 2, 0);
        });
    }

    private static void theBook() {
        Due.says(TERMS, "THE BOOK: yawns with MINUTE, FACE, CAUSE, whether meant:", () -> {
            StartedByAYawn x = Due.lake("5/1;5/2>a", "1");
            x.minute();
            x.yawn(0, 1);
            x.minutes(3);
            Due.is("a in MINUTE 1, b in 3 by a", Due.bookOf(x).equals("1/0/-1/1/0 3/1/0/0/0 "), true);
        });
        Due.says(TERMS, "the last 60 are known, in their order (of one MINUTE by numbers).", () -> {
            StartedByAYawn x = Due.lake("0/1;0/1;0/1");
            for (int k = 0; k < 20; k++) {
                Due.is("60 at most", x.count(5), 3 * k);
                Due.hour(x, "yc;ya;yb;m1");
            }
            Due.is("60", x.count(5), 60);
            for (int i = 0; i < 60; i++) {
                Due.is("MINUTE and FACE of yawn " + i, x.book(i, 0) * 10 + x.book(i, 1), i / 3 * 10 + i % 3);
            }
            Due.hour(x, "yb;m1");
            Due.is("60 still", x.count(5), 60);
            Due.is("the first known", x.book(0, 0) * 10 + x.book(0, 1), 1);
            Due.is("the last", x.book(59, 0) * 10 + x.book(59, 1), 201);
        });
    }

    private static void crews() {
        Due.says(TERMS, "CREWS 0 .. (at most 5): READY from a MINUTE on (0 .. 600, counted from when it is asked);", () -> {
            StartedByAYawn x = Due.lake("5/1");
            Due.is("0", x.crew(0, 1, 1), 0);
            Due.is("1", x.crew(600, 1, 1), 1);
            Due.is("2", x.crew(30, 1, 1), 2);
            Due.is("3", x.crew(30, 1, 1), 3);
            Due.is("4", x.crew(30, 1, 1), 4);
            Due.none("a sixth", x, () -> x.crew(30, 1, 1), -2);
            Due.refused("READY -1", x, () -> x.crew(-1, 1, 1));
            Due.refused("READY 601", x, () -> x.crew(601, 1, 1));
            Due.is("READY from 30 on, START in 40", x.cost(2), 10);
            x.minutes(5);
            Due.is("READY from 30 on, START in 35", x.cost(2), 5);
        });
        Due.says(TERMS, "each MINUTE ahead of THE START costs it HOLD 0 .. 9, each behind it, till it is READY, LATE 0 .. 99.", () -> {
            StartedByAYawn x = Due.lake("5/1");
            x.crew(0, 9, 1);
            x.crew(600, 1, 99);
            x.crew(0, 0, 1);
            x.crew(600, 1, 0);
            x.crew(40, 9, 99);
            Due.is("40 ahead", x.cost(0), 360);
            Due.is("560 behind", x.cost(1), 560 * 99);
            Due.is("HOLD 0", x.cost(2), 0);
            Due.is("LATE 0", x.cost(3), 0);
            Due.is("just then", x.cost(4), 0);
        });
    }

    private static void theRow() {
        Due.says(TERMS, "ROW: numbers told last by a call that says so.", () -> {
            StartedByAYawn x = Due.lake("5/1>b;5/1;5/1");
            Due.row("none", x);
            x.ahead(1);
            Due.row("three", x, 0, 0, 0);
            x.catchers(1, 0);
            Due.row("one", x, 1);
            x.yawn(2, 0);
            x.away(1);
            x.dies(0);
            x.everlasting();
            x.calm(0, 1);
            x.delays(0);
            x.count(0);
            x.judges(1);
            x.set(0, 0, 9);
            x.keep(0);
            x.again(0);
            Due.row("these tell none", x, 1);
            x.minute();
            Due.row("two", x, 0, 0);
        });
        Due.says(TERMS, "Rows of numbers are compared from the first on.", () -> {
            StartedByAYawn x = Due.lake("1/1;1/1>ac;1/1>a;1/2>a;1/1>bd");
            Due.told("b, e is less than c, b, e would be", x, x.path(0, 4), 2, 1, 4);
            StartedByAYawn y = Due.lake("1/1;1/2>d;1/1>a;1/1>a;1/1>bc;1/2>c", "0");
            Due.told("c, e and not d, b, e", y, y.path(0, 4), 2, 2, 4);
            StartedByAYawn z = Due.lake("1/1;1/1>d;1/2>a;1/1>a;1/1>bc", "0");
            Due.told("the longer row is the greater one", z, z.path(0, 4), 3, 2, 4);
        });
        Due.says(TERMS, "Sets of FACES are bits.", () -> {
            StartedByAYawn x = Due.lake("1/1;1/1;1/1;1/1;1/1;1/1;1/1;1/1;1/1>ah");
            x.away(0);
            x.away(8);
            Due.is("a and i", x.count(3), 1 + 256);
            Due.is("a and h", x.face(8, 2), 1 + 128);
        });
    }

    private static void toCome() {
        Due.says(TERMS, "Questions about MINUTES to come change nothing,", () -> {
            StartedByAYawn x = Due.lake("5/2>b;5/3>a;9/1>ab;6/1", "t>y-m");
            x.judges(3);
            x.crew(20, 3, 4);
            x.seen(1, 3);
            Due.hour(x, "fa;m12;ad;yb");
            Due.text(x, "5/1");
            String before = Due.stateOf(x);
            x.start();
            x.ahead(300);
            x.watch(300);
            x.when(2);
            x.spreads(0, 300);
            x.dies(0);
            x.everlasting();
            x.cuts(0);
            x.reach(0);
            x.path(0, 2);
            x.enough();
            x.dull(9, 299);
            x.bluff();
            x.calm(0, 300);
            x.hush(300);
            x.gaze(0, 300);
            x.rests(20);
            x.cost(0);
            x.best(0);
            x.began();
            x.delays(0);
            x.fewest();
            x.season(5, 20);
            x.catchers(0, 1);
            Due.is("all is as it was", Due.stateOf(x).equals(before), true);
        });
        Due.says(TERMS, "and look on for 300 MINUTES (0 .. 299 from now);", () -> {
            StartedByAYawn x = Due.lake("0/1");
            x.minute();
            Due.is("yawns in MINUTES 90, 100 .. 290", x.ahead(299), 21);
            Due.is("and in MINUTE 300, 299 from now", x.ahead(300), 22);
            Due.refused("301", x, () -> x.ahead(301));
            StartedByAYawn y = Due.lake("4/1>b;4/1>a", "m<299");
            Due.is("the last yawn in MINUTE 299", y.dies(0), 300);
            Due.rule(y, "m<300");
            Due.is("the last yawn in MINUTE 300", y.dies(0), -2);
        });
        Due.says(TERMS, "a START that is asked for is of these alone.", () -> {
            StartedByAYawn x = Due.lake("9/1");
            x.away(0);
            Due.is("none in these", x.start(), -2);
            Due.hour(x, "aa");
            Due.is("one in these", x.start(), 0);
            Due.refused("300 MINUTES from now", x, () -> x.dull(1, 300));
        });
    }

    private static void refusedCalls() {
        Due.says(TERMS, "Refused calls answer NONE, or false, and change nothing but THE TEXT,", () -> {
            StartedByAYawn x = Due.lake("5/1>b;5/1>a");
            x.minute();
            Due.text(x, "ab");
            Due.refuses("end", x, () -> x.end(3));
            Due.refuses("yawn", x, () -> x.yawn(2, 0));
            Due.refuses("keep", x, () -> x.keep(2));
            Due.refuses("again", x, () -> x.again(0));
            Due.refused("set", x, () -> x.set(0, 0, 10));
            Due.refused("sheet", x, () -> x.sheet(4, 0, 0, 0));
            Due.refused("judges", x, () -> x.judges(4));
            Due.refused("away", x, () -> x.away(2));
            Due.refused("minutes", x, () -> x.minutes(301));
            Due.refused("seen", x, () -> x.seen(2, 0));
            Due.refused("crew", x, () -> x.crew(601, 0, 0));
            x.undo();
            Due.refused("undo", x, x::undo);
        });
        Due.says(TERMS, "which a call that reads it empties.", () -> {
            StartedByAYawn x = new StartedByAYawn();
            String[] bad = {"x", "x", "z", "x"};
            String[] good = {"5/1", "5", "1", "m1"};
            for (int call = 0; call < 4; call++) {
                for (String text : new String[] {bad[call], good[call]}) {
                    Due.text(x, text);
                    Due.is("read", reading(x, call) < 0, text.equals(bad[call]));
                    Due.is("empty behind call " + call + " of " + text, x.count(11), 0);
                }
            }
        });
    }

    private static int reading(StartedByAYawn x, int call) {
        return call == 0 ? x.wall() : call == 1 ? x.wind() : call == 2 ? x.rule() : x.hour();
    }

    private static void noneFirst() {
        Due.says(TERMS, "NONE is asked ahead of other answers below 0 (what a TEXT tells wrongly aside).", () -> {
            StartedByAYawn none = new StartedByAYawn();
            Due.refused("no FACES and v 0", none, () -> none.dull(0, 0));
            Due.refused("no FACES and 301", none, () -> none.watch(301));
            StartedByAYawn x = Due.lake("5/1;5/1");
            for (int k = 0; k < 5; k++) {
                x.crew(0, 0, 0);
            }
            x.away(0);
            x.away(1);
            Due.refused("five CREWS and READY 601", x, () -> x.crew(601, 0, 0));
            Due.refused("AWAY and meant 2", x, () -> x.catchers(0, 2));
            Due.refused("AWAY and 0 MINUTES", x, () -> x.spreads(0, 0));
            Due.refused("to nobody, AWAY", x, () -> x.path(0, 1));
            Due.refused("no START and no CREW 5", x, () -> x.cost(5));
            Due.refused("no way and no CREW 5", x, () -> x.best(5));
            Due.refused("kind 4 of n below 0", x, () -> x.sheet(4, -1, 0, 0));
            Due.refused("none such ahead of AWAY", x, () -> x.dies(2));
            Due.refused("none such ahead of AWAY", x, () -> x.cuts(-1));
            Due.refused("yawns always, 0 MINUTES", x, () -> x.calm(0, 0));
        });
    }

    private static void theRowStays() {
        Due.says(TERMS, "The ROW stays with NONE and with each number below 0 that tells why there is no answer (-2, -3 ..);", () -> {
            StartedByAYawn x = Due.lake("9/1>b;5/1>c;5/1;5/1", "1");
            x.ahead(0);
            Due.none("catchers", x, () -> x.catchers(4, 0), -1);
            Due.none("minutes", x, () -> x.minutes(-1), -1);
            Due.none("back", x, () -> x.back(0), -1);
            Due.none("calm", x, () -> x.calm(0, 300), -2);
            Due.none("path", x, () -> x.path(3, 0), -2);
            Due.none("path", x, () -> x.path(0, 4), -1);
            Due.none("enough", x, x::enough, -2);
            Due.none("watch", x, () -> x.watch(0), -2);
            Due.none("cost", x, () -> x.cost(0), -1);
            Due.none("best", x, () -> x.best(0), -1);
            Due.none("gaze", x, () -> x.gaze(4, 1), -2);
            Due.none("hush", x, () -> x.hush(0), -1);
            Due.none("rests", x, () -> x.rests(21), -1);
            Due.none("season", x, () -> x.season(0, 0), -1);
            Due.none("sheet", x, () -> x.sheet(0, -1, 0, 0), -2);
            x.seen(3, 1);
            x.away(3);
            x.ahead(0);
            Due.none("fewest", x, x::fewest, -2);
            Due.none("dies", x, () -> x.dies(3), -3);
            Due.none("cuts", x, () -> x.cuts(3), -3);
            Due.none("when", x, () -> x.when(3), -2);
            Due.none("spreads", x, () -> x.spreads(3, 1), -2);
            Due.none("catchers", x, () -> x.catchers(3, 0), -2);
            Due.is("a TEXT that is wrong", Due.hour(x, "q"), -1);
            Due.row("a TEXT that is wrong", x, 0, 0, 0, 0);
            Due.is("a sheet that is missing", x.sheet(3, 0, 0, 0), -3);
            Due.row("a sheet that is missing", x, 0, 0, 0, 0);
        });
        Due.says(TERMS, "a number below 0 that is meant as such (below 0, too) comes with its ROW.", () -> {
            StartedByAYawn x = Due.lake("5/1;5/1>a", "1");
            x.ahead(0);
            Due.told("none had better see a", x, x.gaze(0, 5), -1, 0);
            x.yawn(0, 0);
            Due.told("none had better see a, whom b SEES", x, x.gaze(0, 5), -1, 1);
        });
    }
}
