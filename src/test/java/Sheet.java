import java.io.IOException;
import java.nio.file.Files;
import java.nio.file.Path;
import java.util.BitSet;
import java.util.HashMap;
import java.util.HashSet;
import java.util.LinkedHashMap;
import java.util.Map;
import java.util.Set;

/**
 * The document beside the tests. A test names the sentence that it stands for, word by word as the
 * document has it. Faults are, beside a wrong answer: a sentence that the document has not, words of
 * a section that no test stands for, and a refusal or NONE that a promise names and no test asks for.
 */
final class Sheet {
    private static final Path DOCUMENT = Path.of("../shared/DOC.md");
    private static final Map<String, Long> NAMED = Map.of("UNKNOWN", -1L, "OUTSIDE", -2L, "STATE", -3L, "FULL", -4L, "NONE", -9L);

    private final String name;
    private final Map<String, String> texts = new LinkedHashMap<>();
    private final Map<String, BitSet> stoodFor = new HashMap<>();
    private final Map<String, Set<Long>> askedFor = new HashMap<>();
    private String section = "";
    private String sentence = "";
    private boolean asked = true;
    private int answers = 0;
    private int wrong = 0;

    Sheet(String name) throws IOException {
        this.name = name;
        for (String part : Files.readString(DOCUMENT).split("(?m)^## ")) {
            int end = part.indexOf('\n');
            if (end < 0) continue;
            String title = part.substring(0, end).replaceAll(":.*", "").trim();
            texts.put(title, plain(part.substring(end)));
            stoodFor.put(title, new BitSet());
            askedFor.put(title, new HashSet<>());
        }
    }

    /** A section without marks of its form, each gap a single blank. */
    private static String plain(String body) {
        return body.replaceAll("(?s)Ahead of the calls.*", "").replaceAll("```[a-z]*", " ").replaceAll("==== [0-9]", " ")
            .replaceAll("^\\s*`[^`]*`:", " ").replaceAll("\\s+", " ").trim();
    }

    private void fault(String what) {
        wrong++;
        System.out.println(section + ": " + what);
    }

    void section(String title) {
        untested();
        section = title;
        sentence = "";
        if (!texts.containsKey(title)) fault("the document has no such section");
    }

    /** What is asked from here on stands for this sentence of the section. */
    void says(String words) {
        untested();
        sentence = words;
        asked = false;
        String text = texts.getOrDefault(section, "");
        int at = text.indexOf(words);
        if (at < 0) {
            fault("the document does not say \"" + words + "\"");
            return;
        }
        BitSet met = stoodFor.get(section);
        for (int other = at; other >= 0; other = text.indexOf(words, other + 1)) {
            if (met.nextClearBit(other) < other + words.length()) {
                at = other;
                break;
            }
        }
        met.set(at, at + words.length());
    }

    private void untested() {
        if (!asked) fault("nothing is asked for \"" + sentence + "\"");
        asked = true;
    }

    void due(String what, long got, long want) {
        asked = true;
        answers++;
        if (askedFor.containsKey(section)) askedFor.get(section).add(want);
        if (got != want) fault("\"" + sentence + "\": " + what + " answered " + got + ", due is " + want);
    }

    void holds(String what, boolean so) {
        asked = true;
        answers++;
        if (!so) fault("\"" + sentence + "\": not so: " + what);
    }

    /** No word of the section is left without a test. */
    void whole(String title) {
        section(title);
        String text = texts.getOrDefault(title, "");
        BitSet met = stoodFor.getOrDefault(title, new BitSet());
        for (int from = met.nextClearBit(0); from < text.length();) {
            int to = met.nextSetBit(from);
            if (to < 0) to = text.length();
            String left = text.substring(from, to);
            if (left.matches("(?s).*[A-Za-z0-9].*")) fault("no test stands for \"" + left.trim() + "\"");
            from = met.nextClearBit(to);
        }
    }

    /** Each refusal that the section names, and NONE, was asked for. */
    void allRefusals(String title) {
        section(title);
        for (String word : texts.getOrDefault(title, "").split("[^A-Z]+")) {
            Long answer = NAMED.get(word);
            if (answer != null && !askedFor.get(title).contains(answer)) fault("no test asks for " + word);
        }
    }

    void end() {
        System.out.println(name + ": " + answers + " answers, " + (wrong == 0 ? "all are as due" : wrong + " things are not as due"));
        if (wrong != 0) System.exit(1);
    }
}
