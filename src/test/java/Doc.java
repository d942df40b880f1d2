import java.io.IOException;
import java.nio.file.Files;
import java.nio.file.Path;
import java.util.TreeMap;

/** The document's own words: tests quote what they test, each quotation stands there, and no word is left without one. */
final class Doc {
    /** The number of "Terms" among the promises. */
    static final int TERMS = 0;
    static final int LAST = 50;

    private static final TreeMap<Integer, String> WORDS = read();
    private static final TreeMap<Integer, boolean[]> QUOTED = new TreeMap<>();

    private Doc() {
    }

    private static TreeMap<Integer, String> read() {
        TreeMap<Integer, String> words = new TreeMap<>();
        int section = -1;
        try {
            for (String line : Files.readAllLines(Path.of("../shared/DOC.md"))) {
                if (line.startsWith("## ")) {
                    section = line.equals("## Terms") ? TERMS
                        : line.startsWith("## Promise ") ? Integer.parseInt(line.substring(11, line.indexOf(':'))) : -1;
                } else if (section >= 0 && !line.startsWith("```") && !line.startsWith("Ahead of the calls ")) {
                    words.merge(section, plain(line), (a, b) -> a + " " + b);
                }
            }
        } catch (IOException e) {
            Due.fault("the document can't be read: " + e);
        }
        return words;
    }

    /** A line without its number, or without the call that it tells of. */
    private static String plain(String line) {
        return line.replaceFirst("^`[^`]*`: ", "").replaceFirst("^[0-9]\\. ", "").strip();
    }

    static void quote(int promise, String words) {
        String all = WORDS.getOrDefault(promise, "");
        int at = all.indexOf(words);
        if (at < 0 || all.indexOf(words, at + 1) >= 0) {
            Due.fault("promise " + promise + " has not just once '" + words + "'");
            return;
        }
        boolean[] quoted = QUOTED.computeIfAbsent(promise, p -> new boolean[all.length()]);
        for (int i = at; i < at + words.length(); i++) {
            quoted[i] = true;
        }
    }

    /** Each word of these promises was quoted by a test. */
    static void quoted(int from, int to) {
        for (int promise = from; promise <= to; promise++) {
            String all = WORDS.getOrDefault(promise, "");
            boolean[] quoted = QUOTED.getOrDefault(promise, new boolean[all.length()]);
            StringBuilder left = new StringBuilder();
            for (int i = 0; i < all.length(); i++) {
                left.append(quoted[i] || !Character.isLetterOrDigit(all.charAt(i)) ? ' ' : all.charAt(i));
            }
            String words = left.toString().strip().replaceAll(" +", " ");
            if (!words.isEmpty() || all.isEmpty()) {
                Due.fault("promise " + promise + " has words that no test quotes: " + words);
            }
        }
    }
}
