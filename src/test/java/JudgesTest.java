/** Promises 30 to 36: judges and men. */
public final class JudgesTest {
    public static void main(String[] args) {
        enough();
        dull();
        bluff();
        calm();
        hush();
        gaze();
        rests();
        Due.end();
    }

    private static void enough() {
        StartedByAYawn none = new StartedByAYawn();
        Due.is("enough: no FACES", none.enough(), 0);
        Due.row("enough: no FACES", none, 0);
        StartedByAYawn x = Due.lake("1/1>b;1/1>c;1/1>ab");
        Due.is("enough: two", x.enough(), 2);
        Due.row("enough: two", x, 6);
        x.away(0);
        x.away(1);
        Due.is("enough: AWAY or not", x.enough(), 2);
        x.set(2, 2, 2);
        Due.is("enough: a is seen by none", x.enough(), -2);
        Due.row("enough: the ROW stays", x, 6);
        x.set(0, 2, 1);
        Due.is("enough: by itself is by none", x.enough(), -2);
        StartedByAYawn y = Due.lake("1/1>bcd;1/1>a;1/1>a;1/1>a");
        Due.is("enough: of as few", y.enough(), 2);
        Due.row("enough: of as few the least", y, 3);
    }

    private static void dull() {
        StartedByAYawn x = Due.lake("5/1;3/1;3/1");
        Due.is("dull: a, to 30", x.dull(1, 30), 0);
        Due.row("dull: a, to 30", x, 30);
        Due.is("dull: b, for 40 stays", x.dull(1, 40), 1);
        Due.row("dull: b, for 40 stays", x, 40);
        Due.is("dull: as near ones", x.dull(1, 35), 0);
        Due.is("dull: at once", x.dull(9, 0), 0);
        Due.row("dull: at once", x, 0);
        Due.is("dull: b to 7", x.dull(4, 21), 1);
        Due.row("dull: b to 7", x, 20);
        Due.is("dull: 299", x.dull(1, 299), 1);
        int[][] refused = {{0, 0}, {10, 0}, {1, -1}, {1, 300}};
        for (int[] r : refused) {
            Due.is("dull(" + r[0] + ", " + r[1] + ")", x.dull(r[0], r[1]), -1);
        }
        x.away(0);
        x.away(1);
        x.away(2);
        Due.is("dull: without START", x.dull(1, 0), 0);
        Due.row("dull: without START", x, -1);
        StartedByAYawn none = new StartedByAYawn();
        Due.is("dull: no FACES", none.dull(1, 0), -2);
        Due.is("dull: no FACES, v 0", none.dull(0, 0), -1);
    }

    private static void bluff() {
        StartedByAYawn x = Due.lake("5/1>b;4/1>a;2/1");
        x.judges(1);
        Due.is("bluff: a is not seen", x.bluff(), 0);
        Due.row("bluff: a is not seen", x, 0, 40);
        x.judges(3);
        Due.is("bluff: c is not seen", x.bluff(), 2);
        Due.row("bluff: c is not seen", x, 0, 40);
        x.away(2);
        Due.is("bluff: a, for b catches it", x.bluff(), 0);
        Due.row("bluff: a, for b catches it", x, 1, 40);
        Due.rule(x, "0");
        Due.is("bluff: nobody catches it", x.bluff(), 1);
        Due.row("bluff: b, for a stays as TIRED", x, 40, 40);
        x.yawn(0, 1);
        x.yawn(1, 1);
        Due.is("bluff: none such", x.bluff(), -2);
        Due.row("bluff: the ROW stays", x, 40, 40);
        Due.is("bluff: no FACES", new StartedByAYawn().bluff(), -2);
    }

    private static void calm() {
        StartedByAYawn x = Due.lake("5/1;3/1");
        Due.is("calm: 40", x.calm(0, 40), 0);
        Due.is("calm: 41", x.calm(0, 41), 1);
        Due.is("calm: 50", x.calm(0, 50), 1);
        Due.is("calm: 51", x.calm(0, 51), 2);
        Due.is("calm: 90", x.calm(0, 90), 5);
        Due.is("calm: 91", x.calm(0, 91), -2);
        Due.is("calm: 0", x.calm(0, 0), -1);
        Due.is("calm: 301", x.calm(0, 301), -1);
        Due.is("calm: none such", x.calm(2, 9), -1);
        Due.is("calm: none such, -1", x.calm(-1, 9), -1);
        x.yawn(1, 0);
        Due.is("calm: has DUE", x.calm(1, 1), -2);
        x.away(1);
        Due.is("calm: AWAY", x.calm(1, 300), 0);
        Due.is("calm: it stays as TIRED", x.face(0, 0), 5);
        x.set(0, 0, 9);
        Due.is("calm: at once", x.calm(0, 1), 1);
        Due.is("calm: by 9", x.calm(0, 90), 9);
    }

    private static void hush() {
        StartedByAYawn x = Due.lake("5/1;5/1;0/1");
        Due.is("hush: 40", x.hush(40), 0);
        Due.row("hush: 40", x, 0);
        Due.is("hush: 41", x.hush(41), 2);
        Due.row("hush: 41", x, 3);
        Due.is("hush: 91", x.hush(91), 3);
        Due.row("hush: 91", x, 7);
        Due.is("hush: 0", x.hush(0), -1);
        Due.is("hush: 301", x.hush(301), -1);
        Due.row("hush: the ROW stays", x, 7);
        x.away(0);
        Due.is("hush: a is AWAY already", x.hush(41), 1);
        Due.row("hush: a is AWAY already", x, 2);
        Due.is("hush: nobody goes", x.count(3), 1);
        StartedByAYawn y = Due.lake("5/1>b;5/1>a;0/1>a");
        y.judges(4);
        y.yawn(0, 1);
        Due.is("hush: b would catch a FALSE one", y.hush(2), 1);
        Due.row("hush: of as few the least", y, 1);
        Due.is("hush: no FACES", new StartedByAYawn().hush(300), 0);
        x.yawn(1, 0);
        Due.is("hush: in the next MINUTE alone", x.hush(1), 1);
        Due.row("hush: in the next MINUTE alone", x, 2);
    }

    private static void gaze() {
        StartedByAYawn x = Due.lake("5/1;5/1>a;5/1;5/1", "1");
        Due.is("gaze: nobody yawns", x.gaze(0, 5), -1);
        Due.row("gaze: nobody yawns", x, 0);
        x.yawn(0, 0);
        Due.is("gaze: c had better", x.gaze(0, 5), 2);
        Due.row("gaze: c had better", x, 2);
        Due.is("gaze: not so soon", x.gaze(0, 1), -1);
        Due.row("gaze: not so soon", x, 0);
        Due.is("gaze: a had better see b", x.gaze(1, 3), 0);
        Due.row("gaze: a had better see b", x, 1);
        Due.is("gaze: none such", x.gaze(4, 5), -2);
        Due.is("gaze: none such, -1", x.gaze(-1, 5), -2);
        Due.is("gaze: 0", x.gaze(0, 0), -2);
        Due.is("gaze: 301", x.gaze(0, 301), -2);
        Due.row("gaze: the ROW stays", x, 1);
        x.away(2);
        Due.is("gaze: c is AWAY", x.gaze(0, 5), 3);
        x.away(3);
        Due.is("gaze: both are AWAY", x.gaze(0, 5), -1);
        Due.row("gaze: both are AWAY", x, 1);
        Due.is("gaze: what it SEES stays", x.face(2, 2), 0);
        StartedByAYawn y = Due.lake("8/1;0/1;8/1>b", "1");
        Due.is("gaze: of one that gets TIRED", y.gaze(0, 12), 1);
        Due.row("gaze: of one that gets TIRED", y, 1);
    }

    private static void rests() {
        StartedByAYawn none = new StartedByAYawn();
        Due.is("rests: no FACES", none.rests(4), 2);
        Due.row("rests: no FACES", none, 1, -1, -1, -1);
        StartedByAYawn one = Due.lake("5/1");
        Due.is("rests: one FACE", one.rests(20), 4);
        Due.row("rests: one FACE", one, 1, 0, 0, 40);
        Due.is("rests: one FACE, 3", one.rests(3), 3);
        Due.row("rests: one FACE, 3", one, 0, 0, 0, 40);
        Due.is("rests: one FACE, 1", one.rests(1), 1);
        Due.row("rests: one FACE, 1", one, 0, 0, -1, 0);
        StartedByAYawn two = Due.lake("5/1;3/1");
        Due.is("rests: never", two.rests(20), 20);
        Due.row("rests: never", two, 0, 1, 1, 40);
        Due.is("rests: 3", two.rests(3), 3);
        Due.row("rests: 3", two, 0, 1, 0, 20);
        Due.is("rests: 0", two.rests(0), 0);
        Due.row("rests: 0", two, 0, -1, -1, 40);
        Due.is("rests: -1", two.rests(-1), -1);
        Due.is("rests: 21", two.rests(21), -1);
        Due.row("rests: the ROW stays", two, 0, -1, -1, 40);
        two.away(0);
        two.away(1);
        Due.is("rests: nobody, if all are AWAY", two.rests(20), 2);
        Due.row("rests: nobody, if all are AWAY", two, 1, -1, -1, -1);
        StartedByAYawn other = Due.lake("5/3>b;8/3>bc;9/2>b");
        other.judges(5);
        other.yawn(1, 1);
        Due.is("rests: each on another FACE", other.rests(20), 5);
        Due.row("rests: each keeps its own", other, 1, 0, 2, 0);
        StartedByAYawn full = Due.lake("8/1;0/1");
        Due.is("rests: put to 9, then 4 less", full.rests(2), 2);
        Due.row("rests: put to 9, then 4 less", full, 0, 0, 0, 40);
    }
}
