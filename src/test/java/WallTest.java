/** Promises 1 to 10: the wall. */
public final class WallTest {
    private static final String FIVE = "1/1>abcdefghi;1/1>abcdefghi;1/1>abcdefghi;1/1>abcdefghi;1/1>abcdefghi;";
    private static final String NINE = "1/1;1/1;1/1;1/1;1/1;1/1;1/1;1/1;1/1";

    public static void main(String[] args) {
        aNewObject();
        sign();
        end();
        wall();
        wallsFaults();
        wallsEnd();
        wallsRoom();
        wind();
        rule();
        rulesFaults();
        face();
        facesDue();
        set();
        setRefused();
        sheet();
        sheetsEntries();
        sheetsAnswers();
        judges();
        Doc.quoted(1, 10);
        Due.end();
    }

    private static void aNewObject() {
        Due.says(1, "No FACES; it is MINUTE 0.", () -> {
            StartedByAYawn x = new StartedByAYawn();
            for (int what = 0; what < 12; what++) {
                Due.is("count(" + what + ")", x.count(what), 0);
            }
            Due.noSuch("face(0, 0)", () -> x.face(0, 0));
            Due.noSuch("book(0, 0)", () -> x.book(0, 0));
            Due.row("no call", x);
            Due.told("a MINUTE of nobody", x, x.minute(), 0, 0, 0);
            Due.is("it was MINUTE 0", x.count(1), 1);
            x.undo();
            Due.is("it is MINUTE 0", x.count(1), 0);
            Due.is("the next one is new, too", new StartedByAYawn().count(8), 0);
        });
    }

    /** The digits of WIND, by a rule that holds for one digit alone. */
    private static void windIs(String label, StartedByAYawn x, String digits) {
        Due.is(label + ": how many", x.wind(), digits.length());
        Due.wall(x, "0/1>b;0/1>a");
        for (int m = 0; m < digits.length(); m++) {
            Due.rule(x, "w=" + digits.charAt(m));
            Due.is(label + ": digit " + m, x.catchers(0, 0), 2);
            x.minute();
        }
    }

    private static void sign() {
        Due.says(2, "Four signs come behind THE TEXT, of v the highest byte first:", () -> {
            StartedByAYawn x = new StartedByAYawn();
            x.sign(0x31323334);
            windIs("four", x, "1234");
            StartedByAYawn y = new StartedByAYawn();
            y.sign(0x31323334);
            y.end(2);
            y.sign(0x35363738);
            windIs("behind two", y, "125678");
            StartedByAYawn z = new StartedByAYawn();
            z.sign(-1);
            Due.is("255 is no TIRED", z.wall(), -1);
            z.sign(0x35AF3100);
            z.end(3);
            Due.is("nor is 175 the sign 47", z.wall(), -2);
            z.sign(0x352F3180);
            Due.is("nor 128 an end", z.wall(), -4);
        });
        Due.says(2, "how many it has.", () -> {
            StartedByAYawn x = new StartedByAYawn();
            Due.is("four", x.sign(0), 4);
            Due.is("eight", x.sign(Integer.MIN_VALUE), 8);
            x.end(7);
            Due.is("eleven", x.sign(Integer.MAX_VALUE), 11);
            Due.is("count(11)", x.count(11), 11);
            x.end(0);
            Due.is("four again", x.sign(-1), 4);
            Due.is("count(11) again", x.count(11), 4);
        });
        Due.says(2, "Refused: there would be more than 80.", () -> {
            StartedByAYawn x = new StartedByAYawn();
            for (int k = 1; k <= 20; k++) {
                Due.is("sign " + k, x.sign(0x31323334), 4 * k);
            }
            Due.refused("84", x, () -> x.sign(0x35353535));
            for (int n = 79; n >= 77; n--) {
                x.end(n);
                Due.refused("four more than " + n, x, () -> x.sign(0x35353535));
            }
            x.end(76);
            Due.is("four more than 76", x.sign(0x31323334), 80);
            x.end(40);
            Due.is("they are as they were", x.wind(), 40);
        });
    }

    private static void end() {
        Due.says(3, "THE TEXT has its first n signs alone: true;", () -> {
            StartedByAYawn x = new StartedByAYawn();
            Due.is("none of none", x.end(0), true);
            x.sign(0x31323334);
            Due.is("all four", x.end(4), true);
            Due.is("four", x.count(11), 4);
            Due.is("three", x.end(3), true);
            Due.is("three", x.count(11), 3);
            windIs("three", x, "123");
            x.sign(0x31323334);
            Due.is("none of four", x.end(0), true);
            Due.is("an empty TEXT", x.wall(), 0);
        });
        Due.says(3, "false if it has not so many,", () -> {
            StartedByAYawn x = new StartedByAYawn();
            Due.refuses("1 of none", x, () -> x.end(1));
            x.sign(0x31323334);
            Due.refuses("5 of 4", x, () -> x.end(5));
            Due.refuses("the most", x, () -> x.end(Integer.MAX_VALUE));
            x.end(3);
            Due.refuses("4 of 3, that there were", x, () -> x.end(4));
            windIs("three", x, "123");
        });
        Due.says(3, "or n is below 0.", () -> {
            StartedByAYawn x = new StartedByAYawn();
            Due.refuses("-1 of none", x, () -> x.end(-1));
            x.sign(0x31323334);
            Due.refuses("-1 of 4", x, () -> x.end(-1));
            Due.refuses("the least", x, () -> x.end(Integer.MIN_VALUE));
            windIs("four", x, "1234");
        });
    }

    private static void wall() {
        Due.says(4, "THE TEXT tells of THE WALL (an empty one: nothing): how many LINES.", () -> {
            StartedByAYawn x = new StartedByAYawn();
            Due.asks("an empty one", x, x::wall, 0);
            Due.is("two", Due.wall(x, "9/9>bi;0/1"), 2);
            Due.is("a third", Due.wall(x, "3/2>ac"), 1);
            Due.is("three", x.count(0), 3);
            Due.is("its TIRED", x.face(2, 0), 3);
            Due.is("its DELAY", x.face(2, 1), 2);
            Due.is("it SEES a", x.face(2, 2), 1);
            Due.is("it did not yawn", x.face(2, 3), 0);
            Due.is("it has no DUE", x.face(2, 4), -1);
            x.undo();
            Due.asks("an empty one changes nothing", x, x::wall, 0);
            Due.is("nine", Due.wall(new StartedByAYawn(), NINE), 9);
        });
        Due.says(4, "Nothing of it comes, if a LINE can't.", () -> {
            StartedByAYawn x = Due.lake("5/1>b");
            x.minute();
            Due.text(x, "");
            String before = Due.stateOf(x);
            Due.is("the third", Due.wall(x, "4/1;4/1;x"), -9);
            Due.is("all is as it was", Due.stateOf(x).equals(before), true);
            Due.is("there is no b", x.face(0, 2), 0);
            Due.is("the second, behind one that SEES a", Due.wall(x, "9/1>a;x"), -7);
            Due.told("nobody SEES a", x, x.catchers(0, 0), 0, 0);
            Due.is("nobody else yawns", x.ahead(300), x.row(0));
            Due.is("a good one", Due.wall(x, "0/9"), 1);
            Due.is("has nothing of the other", x.face(1, 0) * 100 + x.face(1, 1) * 10 + x.face(1, 2), 90);
        });
    }

    private static void wallsFaults() {
        Due.says(4, "-1 - p: the sign at p can't stand there", () -> {
            String[] faulty = {"x", "5x", "5/x", "5/0", "5/1x", "5/1>x", "5/1>j", "5/1>ax", "5/1>a>", "5/1>abi;x", "5/1;6x",
                "5/1;;", ";", "5/12", "55/1", "5 /1", "/1", "5/1>A", "5/1 ", "5/1>a5"};
            int[] at = {0, 1, 2, 2, 3, 4, 4, 5, 5, 8, 5, 4, 0, 3, 1, 1, 0, 4, 3, 5};
            StartedByAYawn x = new StartedByAYawn();
            for (int i = 0; i < faulty.length; i++) {
                Due.is(faulty[i], Due.wall(x, faulty[i]), -1 - at[i]);
                Due.is(faulty[i] + " is read away", x.count(11), 0);
            }
            Due.is("nothing came", x.count(0), 0);
        });
        Due.says(4, "(its end, if it ends too early;", () -> {
            String[] faulty = {"5", "5/", "5/1>", "5/1;", "5/1;6", "5/1;6/", "5/1>ab;6/1>"};
            for (String wall : faulty) {
                Due.is(wall, Due.wall(new StartedByAYawn(), wall), -1 - wall.length());
            }
            Due.is("76 signs", Due.wall(new StartedByAYawn(), FIVE + "1/1;1/"), -77);
            Due.is("75 signs", Due.wall(new StartedByAYawn(), FIVE + "1/1;1"), -76);
        });
        Due.says(4, "a letter that does not rise: at it;", () -> {
            StartedByAYawn x = new StartedByAYawn();
            Due.is("ba", Due.wall(x, "5/1>ba"), -6);
            Due.is("aa", Due.wall(x, "5/1>aa"), -6);
            Due.is("abdc", Due.wall(x, "5/1>abdc"), -8);
            Due.is("ii", Due.wall(x, "5/1>ii"), -6);
            Due.is("abcdefghia", Due.wall(x, "5/1>abcdefghia"), -14);
            Due.is("in a second LINE", Due.wall(x, "5/1>ai;5/1>cc"), -13);
        });
    }

    private static void wallsEnd() {
        Due.says(4, "76, if it has more and the first 76 could go on or end;", () -> {
            Due.is("76 that end", Due.wall(new StartedByAYawn(), FIVE + "1/1>ab"), 6);
            Due.is("they could end or go on", Due.wall(new StartedByAYawn(), FIVE + "1/1>abc"), -77);
            Due.is("they could end, then what can't stand", Due.wall(new StartedByAYawn(), FIVE + "1/1>abxx"), -77);
            Due.is("they could end, then what does not rise", Due.wall(new StartedByAYawn(), FIVE + "1/1>abaa"), -77);
            Due.is("they could go on", Due.wall(new StartedByAYawn(), FIVE + "1/1;1/1"), -77);
            Due.is("they could go on, then what can't stand", Due.wall(new StartedByAYawn(), FIVE + "1/1;1/0"), -77);
            Due.is("they could go on with a LINE", Due.wall(new StartedByAYawn(), FIVE + "1/1>a;1/1"), -77);
            Due.is("the last of them can't stand", Due.wall(new StartedByAYawn(), FIVE + "1/1>axb"), -76);
            Due.is("the first of them can't stand", Due.wall(new StartedByAYawn(), "x" + FIVE + "1/1>ab"), -1);
            StartedByAYawn x = new StartedByAYawn();
            Due.wall(x, FIVE + "1/1>abc");
            Due.is("nothing of it comes", x.count(0), 0);
            Due.is("and it is read away", x.count(11), 0);
        });
    }

    private static void wallsRoom() {
        Due.says(4, "the first sign of a LINE for which there is no room).", () -> {
            StartedByAYawn x = Due.lake("1/1;1/1;1/1;1/1;1/1;1/1;1/1");
            Due.is("the third of three", Due.wall(x, "1/1;1/1;1/1"), -9);
            Due.is("and what can't stand", Due.wall(x, "1/1;1/1;x"), -9);
            Due.is("and its end", Due.wall(x, "1/1;1/1;"), -9);
            Due.is("what can't stand ahead of it", Due.wall(x, "1/1;1/0;1/1"), -7);
            Due.is("none came", x.count(0), 7);
            Due.is("just room", Due.wall(x, "1/1;1/1"), 2);
            Due.is("none", Due.wall(x, "1/1"), -1);
            Due.asks("an empty one", x, x::wall, 0);
            Due.is("ten on a new wall", Due.wall(new StartedByAYawn(), NINE + ";1/1"), -37);
            StartedByAYawn y = new StartedByAYawn();
            Due.is("nine and a ;", Due.wall(y, NINE + ";"), -37);
            Due.is("none of them came", y.count(0), 0);
            Due.is("ten of which the first 76 could go on",
                Due.wall(new StartedByAYawn(), "1/1>abcdefghi;1/1>abcdefghi;1/1>abcdefghi;1/1>ab;1/1;1/1;1/1;1/1;1/1;1/1;1/1"), -70);
        });
    }

    private static void wind() {
        Due.says(5, "THE TEXT is WIND (an empty one: none): how many digits.", () -> {
            StartedByAYawn x = Due.lake("0/1>b;0/1>a", "w>4");
            Due.is("two", Due.wind(x, "09"), 2);
            Due.is("read away", x.count(11), 0);
            Due.is("in MINUTE 0", x.catchers(0, 0), 0);
            x.minute();
            Due.is("in MINUTE 1", x.catchers(0, 0), 2);
            Due.is("one", Due.wind(x, "0"), 1);
            Due.is("it is not two any more", x.catchers(0, 0), 0);
            Due.is("40", Due.wind(x, "9999999999999999999999999999999999999999"), 40);
            Due.is("of 40", x.catchers(0, 0), 2);
            Due.is("an empty one", x.wind(), 0);
            Due.is("none", x.catchers(0, 0), 0);
        });
        Due.says(5, "-1 - p: the sign at p can't stand there", () -> {
            StartedByAYawn x = Due.lake("0/1>b;0/1>a", "w=7");
            Due.wind(x, "7");
            String[] faulty = {"x", " 1", "1x", "12;", "123/", "123:", "0123456789012345678901234567890123456-8"};
            for (String wind : faulty) {
                int at = 0;
                while (Character.isDigit(wind.charAt(at))) {
                    at++;
                }
                Due.is(wind, Due.wind(x, wind), -1 - at);
                Due.is("read away", x.count(11), 0);
                Due.is("it is as it was", x.catchers(0, 0), 2);
            }
        });
        Due.says(5, "(40, if it has more and the first 40 could go on or end).", () -> {
            String forty = "0123456789012345678901234567890123456789";
            StartedByAYawn x = Due.lake("0/1>b;0/1>a", "w=7");
            Due.wind(x, "7");
            Due.is("40", Due.wind(new StartedByAYawn(), forty), 40);
            Due.is("41", Due.wind(x, forty + "0"), -41);
            Due.is("80", Due.wind(x, forty + forty), -41);
            Due.is("41, the last of which can't stand", Due.wind(x, forty + "x"), -41);
            Due.is("41, the one ahead of it can't stand", Due.wind(x, forty.substring(1) + "x0"), -40);
            Due.is("it is as it was", x.catchers(0, 0), 2);
        });
    }

    private static void rule() {
        Due.says(6, "THE TEXT is THE RULE (an empty one: none): 0.", () -> {
            StartedByAYawn x = Due.lake("5/1>b;3/1>a");
            Due.is("none: t>3, of b", x.catchers(0, 0), 0);
            Due.is("one", Due.rule(x, "t=3"), 0);
            Due.is("read away", x.count(11), 0);
            Due.is("of b", x.catchers(0, 0), 2);
            Due.is("of a", x.catchers(1, 0), 0);
            Due.is("a shorter one", Due.rule(x, "0"), 0);
            Due.is("of b by the shorter one", x.catchers(0, 0), 0);
            Due.is("an empty one", x.rule(), 0);
            Due.is("none again, of a", x.catchers(1, 0), 1);
            Due.is("none again, of b", x.catchers(0, 0), 0);
        });
    }

    private static void rulesFaults() {
        Due.says(6, "-1 - p: as wall() (40 signs).", () -> {
            StartedByAYawn x = Due.lake("5/1>b;3/1>a", "t=3");
            String[] faulty = {"z", "t+", "+t", "t<y<k", "(t", "()", "t)", "(((((t)))))", "1000", "tt", "t1", "1t", "t>>y", "*t",
                "t-*y", "-", "(t<y)<k>1", "1 +1", "t;", "(t)(y)", "2(t)", "t<", "t*", "(t=)", "((((", "t-", "T"};
            int[] at = {0, 2, 0, 3, 2, 1, 1, 4, 3, 1, 1, 1, 2, 0, 2, 1, 7, 1, 1, 3, 1, 2, 2, 3, 4, 2, 0};
            for (int i = 0; i < faulty.length; i++) {
                Due.is(faulty[i], Due.rule(x, faulty[i]), -1 - at[i]);
                Due.is(faulty[i] + " is read away", x.count(11), 0);
                Due.is("it is as it was", x.catchers(0, 0) * 10 + x.catchers(1, 0), 20);
            }
            String most = "t+1+1+1+1+1+1+1+1+1+1+1+1+1+1+1+1+1+1";
            Due.is("39 end too early", Due.rule(x, most + "+-"), -40);
            Due.is("40 end too early", Due.rule(x, most + "+1-"), -41);
            Due.is("40 in ( end too early", Due.rule(x, "(" + most + "+1"), -41);
            Due.is("41, the first 40 could go on", Due.rule(x, most + "+1-1"), -41);
            Due.is("41, the first 40 could end", Due.rule(x, most + "+101"), -41);
            Due.is("42, the first 40 could end", Due.rule(x, most + "+10zz"), -41);
            Due.is("41, a fault ahead", Due.rule(x, most + "+z01"), -39);
            Due.is("41, the last but one can't stand", Due.rule(x, most + "+1z1"), -40);
            Due.is("80", Due.rule(x, most + "+10" + most + "+10"), -41);
            Due.is("it is as it was", x.catchers(0, 0), 2);
            Due.is("40", Due.rule(x, most + "+10"), 0);
            Due.is("it is another", x.catchers(0, 0) * 10 + x.catchers(1, 0), 21);
        });
    }

    private static void face() {
        String wall = "7/2>bc;6/3>abi;2/1";
        Due.says(7, "Of a FACE, what 0: TIRED,", () -> {
            StartedByAYawn x = Due.lake(wall);
            Due.is("a", x.face(0, 0), 7);
            Due.is("c", x.face(2, 0), 2);
        });
        Due.says(7, "1: DELAY,", () -> {
            StartedByAYawn x = Due.lake(wall);
            Due.is("a", x.face(0, 1), 2);
            Due.is("b", x.face(1, 1), 3);
        });
        Due.says(7, "2: whom it SEES (bits, as told, of those that are there),", () -> {
            StartedByAYawn x = Due.lake(wall);
            Due.is("a", x.face(0, 2), 6);
            Due.is("b, without itself and i", x.face(1, 2), 1);
            Due.is("c", x.face(2, 2), 0);
            x.away(0);
            Due.is("also one that is AWAY", x.face(1, 2), 1);
            Due.wall(x, "1/1;1/1;1/1;1/1;1/1;1/1");
            Due.is("i, now that it is there", x.face(1, 2), 257);
        });
        Due.says(7, "3: how often it yawned,", () -> {
            StartedByAYawn x = Due.lake(wall);
            Due.is("not yet", x.face(1, 3), 0);
            Due.hour(x, "yb;m1;yb");
            Due.is("one is DUE", x.face(1, 3), 1);
            x.minute();
            Due.is("two", x.face(1, 3), 2);
            Due.is("a did not", x.face(0, 3), 0);
        });
        Due.says(7, "7: 1 if it is AWAY.", () -> {
            StartedByAYawn x = Due.lake(wall);
            Due.is("it is not", x.face(1, 7), 0);
            x.away(1);
            Due.is("it is", x.face(1, 7), 1);
            Due.is("a is not", x.face(0, 7), 0);
            x.away(1);
            Due.is("it came back", x.face(1, 7), 0);
        });
        Due.says(7, "NoSuchElementException: none such, another what.", () -> {
            StartedByAYawn x = Due.lake(wall);
            int[][] bad = {{-1, 0}, {3, 0}, {9, 0}, {0, -1}, {0, 8}, {3, 8}, {Integer.MAX_VALUE, 0}, {Integer.MIN_VALUE, 0},
                {0, Integer.MAX_VALUE}, {0, Integer.MIN_VALUE}};
            for (int[] b : bad) {
                Due.noSuch("face(" + b[0] + ", " + b[1] + ")", () -> x.face(b[0], b[1]));
            }
            Due.noSuch("of no FACES", () -> new StartedByAYawn().face(0, 0));
            Due.is("the last one, the last what", x.face(2, 7), 0);
        });
    }

    private static void facesDue() {
        String wall = "5/2;6/3>a;2/1";
        Due.says(7, "4: DUE, in how many MINUTES (NONE: it has none),", () -> {
            StartedByAYawn x = Due.lake(wall);
            Due.is("none", x.face(0, 4), -1);
            x.minutes(5);
            x.yawn(0, 0);
            Due.is("now", x.face(0, 4), 0);
            x.minute();
            Due.is("it did", x.face(0, 4), -1);
            Due.is("b in 2", x.face(1, 4), 2);
            x.minute();
            Due.is("b in 1", x.face(1, 4), 1);
            x.away(1);
            Due.is("b is AWAY", x.face(1, 4), -1);
        });
        Due.says(7, "5: its CAUSE (NONE, also without DUE),", () -> {
            StartedByAYawn x = Due.lake(wall);
            Due.is("without DUE", x.face(1, 5), -1);
            x.yawn(0, 0);
            Due.is("with DUE, without CAUSE", x.face(0, 5), -1);
            x.minute();
            Due.is("a", x.face(1, 5), 0);
            x.minutes(3);
            Due.is("it did", x.face(1, 5), -1);
            x.yawn(0, 0);
            x.minute();
            x.away(1);
            Due.is("b is AWAY", x.face(1, 5), -1);
        });
        Due.says(7, "6: 1 if it means that,", () -> {
            StartedByAYawn x = Due.lake(wall);
            Due.is("without DUE", x.face(0, 6), 0);
            x.yawn(0, 1);
            x.yawn(2, 0);
            Due.is("meant", x.face(0, 6), 1);
            Due.is("true", x.face(2, 6), 0);
            x.minute();
            Due.is("it did", x.face(0, 6), 0);
            Due.is("caught", x.face(1, 6), 0);
            x.yawn(0, 1);
            x.away(0);
            Due.is("AWAY", x.face(0, 6), 0);
            x.away(0);
            x.yawn(0, 0);
            Due.is("true this time", x.face(0, 6), 0);
        });
    }

    private static void set() {
        Due.says(8, "TIRED (what 0; 0 .. 9),", () -> {
            StartedByAYawn x = Due.lake("5/2;6/3");
            Due.is("9", x.set(0, 0, 9), 5);
            Due.is("it yawns", x.minute(), 1);
            Due.is("0", x.set(0, 0, 0), 8);
            Due.is("it is 0", x.face(0, 0), 0);
            Due.is("b is as it was", x.face(1, 0), 6);
        });
        Due.says(8, "DELAY (1; 1 .. 9),", () -> {
            StartedByAYawn x = Due.lake("5/2>b;6/3");
            Due.is("9", x.set(0, 1, 9), 2);
            Due.is("1", x.set(0, 1, 1), 9);
            Due.is("it is 1", x.face(0, 1), 1);
            x.yawn(1, 0);
            x.minute();
            x.set(0, 1, 9);
            Due.is("DUE stays", x.face(0, 4), 0);
        });
        Due.says(8, "whom it SEES (2; bits 0 .. 511)", () -> {
            StartedByAYawn x = Due.lake("5/2;6/3>a");
            Due.is("all", x.set(1, 2, 511), 1);
            Due.is("it SEES a, not itself", x.face(1, 2), 1);
            Due.is("none", x.set(1, 2, 0), 511);
            Due.is("it SEES nobody", x.face(1, 2), 0);
            Due.is("nobody CATCHES one", x.catchers(0, 0), 0);
            x.set(0, 2, 4);
            Due.is("c is not there", x.face(0, 2), 0);
            Due.wall(x, "1/1");
            Due.is("c came", x.face(0, 2), 4);
        });
        Due.says(8, "of a FACE becomes v: what it was.", () -> {
            StartedByAYawn x = Due.lake("5/2>abi;6/3");
            Due.is("TIRED", x.set(0, 0, 5), 5);
            Due.is("DELAY", x.set(0, 1, 2), 2);
            Due.is("SEES, as told", x.set(0, 2, 3), 1 + 2 + 256);
            Due.is("SEES, as set", x.set(0, 2, 2), 3);
            Due.is("TIRED of b", x.set(1, 0, 1), 6);
            Due.is("it is no act to be undone", x.count(8), 0);
        });
    }

    private static void setRefused() {
        Due.says(8, "Refused: others.", () -> {
            StartedByAYawn x = Due.lake("5/2;6/3");
            int[][] bad = {{2, 0, 1}, {-1, 0, 1}, {9, 0, 1}, {0, -1, 1}, {0, 3, 1}, {0, 7, 1}, {0, 0, -1}, {0, 0, 10},
                {0, 1, 0}, {0, 1, 10}, {0, 1, -1}, {0, 2, -1}, {0, 2, 512}, {0, 2, Integer.MIN_VALUE},
                {Integer.MIN_VALUE, 0, 1}, {Integer.MAX_VALUE, 0, 1}, {0, 0, Integer.MAX_VALUE}};
            for (int[] b : bad) {
                Due.refused("set(" + b[0] + ", " + b[1] + ", " + b[2] + ")", x, () -> x.set(b[0], b[1], b[2]));
            }
            Due.is("no FACES", new StartedByAYawn().set(0, 0, 0), -1);
        });
    }

    private static void tired(String label, StartedByAYawn x, int... want) {
        for (int f = 0; f < want.length; f++) {
            Due.is(label + ": TIRED of " + f, x.face(f, 0), want[f]);
        }
    }

    private static void sheet() {
        String wall = "5/1;5/1;5/1;5/1";
        Due.says(9, "TIRED of FACES 0, 1, .., as a sheet tells it: bytes (kind 0), shorts (1), ints (2) of n entries f, f + step, ..", () -> {
            for (int kind = 0; kind < 3; kind++) {
                StartedByAYawn x = Due.lake(wall);
                Due.is("kind " + kind, x.sheet(kind, 4, 1, 2), 16);
                tired("kind " + kind, x, 1, 3, 5, 7);
                Due.is("falling", x.sheet(kind, 4, 9, -3), 18);
                tired("falling", x, 9, 6, 3, 0);
                Due.is("all the same", x.sheet(kind, 4, 4, 0), 16);
            }
            StartedByAYawn nine = Due.lake(NINE);
            Due.is("nine", nine.sheet(2, 9, 0, 1), 36);
            tired("nine", nine, 0, 1, 2, 3, 4, 5, 6, 7, 8);
            Due.is("it is no act to be undone", nine.count(8), 0);
        });
        Due.says(9, "or a missing one (3):", () -> {
            StartedByAYawn x = Due.lake(wall);
            Due.is("of 4", x.sheet(3, 4, 5, 1), -3);
            tired("of 4", x, 0, 0, 0, 0);
        });
        Due.says(9, "those behind it have 0:", () -> {
            StartedByAYawn x = Due.lake(wall);
            Due.is("of 2", x.sheet(2, 2, 3, 1), 7);
            tired("of 2", x, 3, 4, 0, 0);
            x.sheet(2, 4, 5, 0);
            Due.is("of none", x.sheet(0, 0, 3, 1), 0);
            tired("of none", x, 0, 0, 0, 0);
            Due.is("of 3", x.sheet(1, 3, 1, 0), 3);
            tired("of 3", x, 1, 1, 1, 0);
        });
    }

    private static void sheetsEntries() {
        Due.says(9, "(of bytes, shorts the lowest bits, with their sign; put to 0 .. 9),", () -> {
            StartedByAYawn x = Due.lake("5/1;5/1");
            x.sheet(0, 2, 256 + 4, 1);
            tired("bytes 260, 261", x, 4, 5);
            x.sheet(0, 2, 127, 1);
            tired("bytes 127, 128", x, 9, 0);
            x.sheet(0, 2, -1, 257);
            tired("bytes -1, 256", x, 0, 0);
            x.sheet(0, 2, Integer.MIN_VALUE + 3, 1);
            tired("bytes of the least ints", x, 3, 4);
            x.sheet(1, 2, 65536 + 4, 1);
            tired("shorts 65540, 65541", x, 4, 5);
            x.sheet(1, 2, 260, -256);
            tired("shorts 260, 4", x, 9, 4);
            x.sheet(1, 2, 32767, 1);
            tired("shorts 32767, 32768", x, 9, 0);
            x.sheet(2, 2, 65540, -65537);
            tired("ints 65540, 3", x, 9, 3);
            x.sheet(2, 2, 32768, 1);
            tired("ints 32768, 32769", x, 9, 9);
            x.sheet(2, 2, 10, -1);
            tired("ints 10, 9", x, 9, 9);
            x.sheet(2, 2, -1, 1);
            tired("ints -1, 0", x, 0, 0);
            x.sheet(2, 2, Integer.MAX_VALUE, 1);
            tired("ints, the most and the least", x, 9, 0);
            x.sheet(2, 2, Integer.MIN_VALUE, Integer.MIN_VALUE);
            tired("ints, the least and 0", x, 0, 0);
            x.sheet(2, 2, Integer.MIN_VALUE, -1);
            tired("ints, the least and the most", x, 0, 9);
        });
    }

    private static void sheetsAnswers() {
        Due.says(9, "the sum of all that there are (entries beyond them are left aside).", () -> {
            StartedByAYawn x = Due.lake("5/1;5/1;5/1;5/1");
            Due.is("8, 9, 10, 11", x.sheet(2, 4, 8, 1), 35);
            Due.is("entries beyond", x.sheet(2, 9, 1, 0), 4);
            Due.is("count(6)", x.count(6), 4);
            x.away(0);
            Due.is("one is AWAY", x.sheet(2, 4, 2, 0), 8);
            Due.is("no FACES", new StartedByAYawn().sheet(2, 3, 1, 1), 0);
        });
        Due.says(9, "-2: n below 0 (of kinds 0 .. 2; nothing changes);", () -> {
            StartedByAYawn x = Due.lake("5/1;4/1");
            x.ahead(0);
            for (int kind = 0; kind < 3; kind++) {
                int k = kind;
                Due.none("kind " + kind, x, () -> x.sheet(k, -1, 1, 1), -2);
                Due.none("kind " + kind, x, () -> x.sheet(k, Integer.MIN_VALUE, 1, 1), -2);
            }
            Due.is("not of kind 3", x.sheet(3, -1, 1, 1), -3);
        });
        Due.says(9, "-3: missing (all 0).", () -> {
            for (int n : new int[] {Integer.MIN_VALUE, -1, 0, 1, 9}) {
                StartedByAYawn x = Due.lake("5/1;4/1");
                Due.is("n " + n, x.sheet(3, n, 5, 5), -3);
                tired("n " + n, x, 0, 0);
            }
        });
        Due.says(9, "NONE: another kind, n above 9 (these first).", () -> {
            StartedByAYawn x = Due.lake("5/1;4/1");
            int[][] bad = {{4, 1}, {-1, 1}, {4, -1}, {-1, -1}, {0, 10}, {1, 10}, {2, 10}, {3, 10}, {2, Integer.MAX_VALUE},
                {Integer.MIN_VALUE, 0}, {Integer.MAX_VALUE, 0}};
            for (int[] b : bad) {
                Due.refused("sheet(" + b[0] + ", " + b[1] + ", 1, 1)", x, () -> x.sheet(b[0], b[1], 1, 1));
            }
        });
    }

    private static void judges() {
        Due.says(10, "JUDGES stand by FACES told as bits:", () -> {
            StartedByAYawn x = Due.lake("5/1>b;5/1>c;5/1");
            x.judges(3);
            Due.is("by a and b", x.count(2), 3);
            Due.hour(x, "fa;fb;fc;m1");
            Due.is("a is not seen", x.book(0, 4), 0);
            Due.is("b is seen", x.book(1, 4), 1);
            Due.is("c is seen", x.book(2, 4), 1);
            x.judges(0);
            Due.is("by none", x.count(2), 0);
            Due.is("b is not seen", x.book(1, 4), 0);
        });
        Due.says(10, "how many FACES (AWAY or not) they see.", () -> {
            StartedByAYawn x = Due.lake("5/1>bc;5/1>b;5/1>abi");
            Due.is("none", x.judges(0), 0);
            Due.is("by a", x.judges(1), 2);
            Due.is("by b, who SEES but itself", x.judges(2), 0);
            Due.is("by a and c, b but once", x.judges(5), 3);
            Due.is("by all", x.judges(7), 3);
            x.away(0);
            Due.is("by one that is AWAY", x.judges(1), 2);
            x.away(1);
            Due.is("two that are AWAY", x.judges(4), 2);
        });
        Due.says(10, "NONE: bits of none such.", () -> {
            StartedByAYawn x = Due.lake("5/1>b;5/1>a;5/1");
            x.judges(5);
            Due.refused("d", x, () -> x.judges(8));
            Due.refused("a and d", x, () -> x.judges(9));
            Due.refused("-1", x, () -> x.judges(-1));
            Due.refused("the highest bit", x, () -> x.judges(Integer.MIN_VALUE));
            Due.refused("the most", x, () -> x.judges(Integer.MAX_VALUE));
            StartedByAYawn nine = Due.lake(NINE);
            Due.refused("of nine, the tenth", nine, () -> nine.judges(512));
            Due.is("of nine, all", nine.judges(511), 0);
            StartedByAYawn none = new StartedByAYawn();
            Due.refused("of no FACES", none, () -> none.judges(1));
            Due.is("of no FACES, none", none.judges(0), 0);
        });
    }
}
