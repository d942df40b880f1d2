import java.lang.management.ManagementFactory;
import java.lang.reflect.InvocationTargetException;
import java.lang.reflect.Method;
import java.util.NoSuchElementException;
import java.util.Random;

/** Any arguments in any state: nothing is thrown but what the document names, and little room is taken. */
public final class RoughTest {
    private static final int CALLS = 512;
    private static final int[] WILD = {Integer.MIN_VALUE, Integer.MIN_VALUE + 1, -513, -4, -3, -2, -1, 0, 1, 2, 3, 8, 9,
        10, 12, 19, 20, 21, 59, 60, 61, 80, 299, 300, 301, 511, 512, 600, 65536, Integer.MAX_VALUE - 1,
        Integer.MAX_VALUE};

    public static void main(String[] args) throws Exception {
        Method[] face = StartedByAYawn.class.getDeclaredMethods();
        java.util.Arrays.sort(face, (a, b) -> a.toString().compareTo(b.toString()));
        for (int seed = 0; seed < 300; seed++) {
            wildRun(new Random(seed), face);
        }
        littleRoom();
        Due.end();
    }

    private static void wildRun(Random random, Method[] face) throws Exception {
        StartedByAYawn x = new StartedByAYawn();
        for (int k = 0; k < CALLS; k++) {
            if (k % 40 == 0) {
                Due.wall(x, "5/1>bc;8/2>ac;9/3>ab");
                Due.rule(x, random.nextBoolean() ? "999*999*999*(m-t)/(n-1)+k/0-x" : "t>y");
                Due.wind(x, "0123456789");
                Due.hour(x, "ya;m9;fb;m99;ac");
            }
            Method call = face[random.nextInt(face.length)];
            if (!java.lang.reflect.Modifier.isPublic(call.getModifiers())) {
                continue;
            }
            Object[] numbers = new Object[call.getParameterCount()];
            for (int i = 0; i < numbers.length; i++) {
                numbers[i] = random.nextInt(3) > 0 ? random.nextInt(10) : (Integer) WILD[random.nextInt(WILD.length)];
            }
            try {
                call.invoke(x, numbers);
            } catch (InvocationTargetException e) {
                boolean named = call.getExceptionTypes().length > 0;
                if (!named || e.getCause().getClass() != NoSuchElementException.class) {
                    Due.fault(call + " with " + java.util.Arrays.toString(numbers) + " throws " + e.getCause());
                }
            }
        }
    }

    /** The room of one run: bytes are measured, eight of them a field or element at the most. */
    private static void littleRoom() {
        com.sun.management.ThreadMXBean threads = (com.sun.management.ThreadMXBean) ManagementFactory.getThreadMXBean();
        long self = Thread.currentThread().getId();
        dearCalls(Due.lake("5/1>b;8/2>a"));
        long before = threads.getThreadAllocatedBytes(self);
        StartedByAYawn x = new StartedByAYawn();
        long made = threads.getThreadAllocatedBytes(self) - before;
        Due.wall(x, "5/1>bcdef;8/2>acdef;7/3>abdef;6/1>ab;5/1>cd;4/1>abcde");
        before = threads.getThreadAllocatedBytes(self);
        for (int k = 0; k < 20; k++) {
            dearCalls(x);
        }
        long called = threads.getThreadAllocatedBytes(self) - before;
        if (made > 100_000) {
            Due.fault("an object takes " + made + " bytes");
        }
        if (called > 20_000) {
            Due.fault("20 runs of dear calls take " + called + " bytes");
        }
    }

    private static void dearCalls(StartedByAYawn x) {
        x.sign(0x6D393900);
        x.end(3);
        x.hour();
        x.sign(0x743E3300);
        x.end(3);
        x.rule();
        x.yawn(0, 0);
        x.minutes(20);
        x.undo();
        x.keep(0);
        x.start();
        x.cuts(0);
        x.everlasting();
        x.hush(300);
        x.rests(20);
        x.fewest();
        x.best(0);
        x.season(3, 20);
        x.gaze(0, 300);
        x.path(0, 1);
        x.again(0);
    }
}
