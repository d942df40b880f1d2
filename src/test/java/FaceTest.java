import java.io.IOException;
import java.lang.reflect.Constructor;
import java.lang.reflect.Field;
import java.lang.reflect.Method;
import java.lang.reflect.Modifier;
import java.nio.file.Files;
import java.nio.file.Path;
import java.util.HashSet;
import java.util.NoSuchElementException;
import java.util.Set;
import java.util.TreeSet;

/** The class has the document's face and nothing else of it, and keeps to the rules that can be read from outside. */
public final class FaceTest {
    private static final String[] FACE = {"int sign 1", "boolean end 1", "int wall 0", "int wind 0", "int rule 0",
        "int face 2", "int set 3", "int sheet 4", "int judges 1", "boolean yawn 2", "int away 1", "int catchers 2",
        "int minute 0", "int minutes 1", "int hour 0", "int undo 0", "int book 2", "int back 1", "int start 0",
        "int ahead 1", "int watch 1", "int when 1", "int spreads 2", "int dies 1", "int everlasting 0", "int cuts 1",
        "int reach 1", "int path 2", "int enough 0", "int dull 2", "int bluff 0", "int calm 2", "int hush 1",
        "int gaze 2", "int rests 1", "int crew 3", "int home 0", "int cost 1", "int best 1", "int seen 2",
        "int forget 0", "int began 0", "int delays 1", "int fewest 0", "int season 2", "boolean keep 1",
        "boolean again 1", "int count 1", "int row 1"};
    private static final Set<String> THROWING = Set.of("face", "book", "row");
    private static final String[] NOT_THERE = {"->", "::", "try {", "catch (", "finally", "synchronized", "assert ",
        "instanceof", "static {", "Exact", "new String", "System.out", "Object"};

    public static void main(String[] args) throws IOException {
        methods();
        members();
        inside();
        source();
        Due.end();
    }

    private static void methods() {
        Set<String> due = new TreeSet<>(Set.of(FACE));
        Set<String> got = new TreeSet<>();
        Set<String> names = new HashSet<>();
        for (Method m : StartedByAYawn.class.getDeclaredMethods()) {
            if (Modifier.isPublic(m.getModifiers())) {
                got.add(m.getReturnType() + " " + m.getName() + " " + m.getParameterCount());
                names.add(m.getName());
                Class<?>[] thrown = m.getExceptionTypes();
                boolean names1 = thrown.length == 1 && thrown[0] == NoSuchElementException.class;
                Due.is(m.getName() + " names what it throws", THROWING.contains(m.getName()) ? names1 : thrown.length == 0,
                    true);
                for (Class<?> p : m.getParameterTypes()) {
                    Due.is(m.getName() + " takes ints", p == int.class, true);
                }
            } else {
                Due.is(m.getName() + " is private", Modifier.isPrivate(m.getModifiers()), true);
            }
        }
        if (!got.equals(due)) {
            Due.fault("the face is " + got + ", due is " + due);
        }
        for (Class<?> c : classes()) {
            for (Method m : c.getDeclaredMethods()) {
                boolean own = c == StartedByAYawn.class && Modifier.isPublic(m.getModifiers());
                Due.is(c.getName() + "." + m.getName() + " has no name of the face", own || !names.contains(m.getName()),
                    true);
                Due.is(m.getName() + " takes at most seven", m.getParameterCount() <= 7, true);
            }
        }
    }

    private static Set<Class<?>> classes() {
        Set<Class<?>> all = new HashSet<>(Set.of(StartedByAYawn.class.getDeclaredClasses()));
        all.add(StartedByAYawn.class);
        return all;
    }

    private static void members() {
        Due.is("public and final", StartedByAYawn.class.getModifiers(), Modifier.PUBLIC | Modifier.FINAL);
        Constructor<?>[] made = StartedByAYawn.class.getDeclaredConstructors();
        Due.is("one constructor", made.length, 1);
        Due.is("it is public and takes nothing", made[0].getModifiers() * 10 + made[0].getParameterCount(),
            Modifier.PUBLIC * 10);
        for (Field f : StartedByAYawn.class.getDeclaredFields()) {
            boolean open = f.getName().equals("NONE") && Modifier.isPublic(f.getModifiers());
            Due.is(f.getName() + " is private", open || Modifier.isPrivate(f.getModifiers()), true);
        }
    }

    private static void inside() {
        Due.is("some twelve classes", classes().size() <= 12, true);
        for (Class<?> c : classes()) {
            int fields = 0;
            for (Field f : c.getDeclaredFields()) {
                boolean constant = Modifier.isStatic(f.getModifiers());
                Due.is(f + " is no static state", !constant || Modifier.isFinal(f.getModifiers()) && f.getType() == int.class,
                    true);
                fields += constant ? 0 : 1;
            }
            Due.is(c.getName() + " has some twenty fields", fields <= 20, true);
            Due.is(c.getName() + " stands in static or outermost", c == StartedByAYawn.class
                || Modifier.isStatic(c.getModifiers()) && Modifier.isPrivate(c.getModifiers()), true);
        }
    }

    private static void source() throws IOException {
        Path file = Path.of("src/main/java/StartedByAYawn.java");
        String source = Files.readString(file);
        for (String word : NOT_THERE) {
            Due.is("'" + word + "' stands in the source", source.contains(word), false);
        }
        for (String line : source.split("\n")) {
            if (line.startsWith("import ")) {
                Due.is(line, line.equals("import java.util.Arrays;")
                    || line.equals("import java.util.NoSuchElementException;"), true);
            }
            Due.is("a package line", line.startsWith("package "), false);
        }
        Due.is("written in signs 1 to 127", source.chars().allMatch(c -> c > 0 && c < 128), true);
    }
}
