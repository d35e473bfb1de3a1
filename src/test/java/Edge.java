import java.io.IOException;
import java.nio.charset.StandardCharsets;
import java.nio.file.Files;
import java.nio.file.Path;
import java.util.Map;
import java.util.TreeMap;

/**
 * Tests that go along the document: each names the section and the sentence whose edges it tries. Where the document
 * can be read, a sentence must stand in its section, and a section must be tried whole.
 */
final class Edge {
    static final String TERMS = "Terms";
    private static final Path DOCUMENT = Path.of("..", "shared", "DOC.md");
    /** Stands in a text where a FAULT is due. */
    private static final char MARK = '^';

    private static final Map<String, String> SECTIONS = readSections();
    /** Of each section, which of its letters stand in a sentence that was tried. */
    private static final Map<String, boolean[]> TRIED = new TreeMap<>();
    private static String section = "";
    private static String sentence = "";

    private Edge() {
    }

    // ---- the document

    private static Map<String, String> readSections() {
        Map<String, String> sections = new TreeMap<>();
        if (!Files.isReadable(DOCUMENT)) {
            System.out.println("there is no " + DOCUMENT + ": sentences are not compared with it");
            return sections;
        }
        try {
            String all = Files.readString(DOCUMENT, StandardCharsets.UTF_8);
            for (String part : all.split("(?m)^## ")) {
                int line = part.indexOf('\n');
                sections.put(part.substring(0, line).trim(), plain(part.substring(line)));
            }
        } catch (IOException e) {
            throw new IllegalStateException(DOCUMENT + " can't be read", e);
        }
        return sections;
    }

    /** Without the frames of code and the heads of methods, one blank between words. */
    private static String plain(String part) {
        return part.replaceAll("(?m)^```\\w*$", "").replaceAll("(?m)^`[^`]*`:", "").replaceAll("\\s+", " ").trim();
    }

    /** Begins the test of a sentence. */
    static void of(String inSection, String ofSentence) {
        section = inSection;
        sentence = ofSentence;
        if (SECTIONS.isEmpty()) {
            return;
        }
        String text = SECTIONS.getOrDefault(section, "");
        int at = text.indexOf(sentence);
        yes("the document has this sentence there", at >= 0);
        boolean[] tried = TRIED.computeIfAbsent(section, s -> new boolean[text.length()]);
        for (int i = at; at >= 0 && i < at + sentence.length(); i++) {
            tried[i] = true;
        }
    }

    /** A section must have been tried whole, from these words on. */
    static void whole(String name, String from) {
        whole(name, SECTIONS.getOrDefault(name, "").indexOf(from), Integer.MAX_VALUE);
    }

    /** A section must have been tried whole, from one place up to another. */
    private static void whole(String name, int from, int to) {
        String text = SECTIONS.getOrDefault(name, "");
        boolean[] tried = TRIED.getOrDefault(name, new boolean[text.length()]);
        StringBuilder left = new StringBuilder();
        for (int i = Math.max(0, from); i < text.length() && i < to; i++) {
            left.append(tried[i] ? "" : text.charAt(i));
        }
        Probe.yes(name + ": no test names \"" + left + "\"", !left.toString().matches(".*[A-Za-z].*"));
    }

    /** A section must have been tried whole, up to these words. */
    static void wholeUpTo(String name, String to) {
        whole(name, 0, SECTIONS.getOrDefault(name, "").indexOf(to));
    }

    /** Ends the test; these sections must have been tried whole. */
    static void finish(String test, String... sections) {
        for (String name : sections) {
            Probe.yes("the document has " + name, SECTIONS.isEmpty() || SECTIONS.containsKey(name));
            whole(name, 0, Integer.MAX_VALUE);
        }
        Probe.finish(test);
    }

    // ---- answers

    static void same(String what, long got, long due) {
        Probe.same(section + ", \"" + sentence + "\": " + what, got, due);
    }

    static void yes(String what, boolean got) {
        same(what, got ? 1 : 0, 1);
    }

    static void sameText(String what, String got, String due) {
        yes(what + " was \"" + got + "\", due is \"" + due + "\"", got.equals(due));
    }

    /** Numbers that are not 0 to n - 1: the ones next to these, and those that are alike to them in some bits alone. */
    static int[] outside(int n) {
        return new int[] {-1, n, -2, n + 1, Math.max(n, 32), Math.max(n, 256), 65536, -32, -256, 1 << 30,
            Integer.MIN_VALUE, Integer.MAX_VALUE, Integer.MIN_VALUE + 1};
    }

    // ---- texts

    static void good(String text, int lines) {
        Desk desk = new Desk();
        same("text() of " + shown(text), desk.tell(text), lines);
        same("fault() of " + shown(text), desk.fault(), 0);
    }

    /** A text with a FAULT of this kind where the mark stands (which is not a part of it). */
    static void bad(String marked, int kind) {
        int place = marked.indexOf(MARK);
        String text = marked.substring(0, place) + marked.substring(place + 1);
        Desk desk = new Desk();
        same("text() of " + shown(marked), desk.tell(text), -1 - place);
        same("fault() of " + shown(marked), desk.fault(), kind);
    }

    /** As many blanks behind a text as bring it to a length. */
    static String filled(String text, int length) {
        return text + Probe.times(" ", length - text.length());
    }

    private static String shown(String text) {
        return "\"" + text.replace("\n", "\\n").replaceAll(" {9,}", " .. ") + "\" (" + text.length() + ")";
    }
}
