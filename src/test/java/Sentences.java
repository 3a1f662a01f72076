import java.io.IOException;
import java.nio.file.Files;
import java.nio.file.Path;
import java.util.ArrayList;
import java.util.HashMap;
import java.util.LinkedHashMap;
import java.util.List;
import java.util.Map;
import java.util.regex.Matcher;
import java.util.regex.Pattern;

/**
 * The sentences of ../shared/DOC.md, part by part, and which of them tests are about. A part is a
 * section of the description, by its name, or a promise, by its number; a sentence of a promise is
 * a line of it.
 */
final class Sentences {
    private static final Path DOCUMENT = Path.of("..", "shared", "DOC.md");
    private static final Pattern SECTION = Pattern.compile("\\d\\. ([A-Z ]+)");
    private static final Pattern PROMISE = Pattern.compile("## (Promise \\d+): .*");
    private static final Map<String, List<String>> PARTS = read();
    private static final Map<String, List<String>> QUOTED = new HashMap<>();
    private static String part = "";

    private Sentences() {
    }

    private static Map<String, List<String>> read() {
        Map<String, List<String>> parts = new LinkedHashMap<>();
        List<String> sentences = new ArrayList<>();
        try {
            for (String line : Files.readAllLines(DOCUMENT)) {
                Matcher section = SECTION.matcher(line);
                Matcher promise = PROMISE.matcher(line);
                if (section.matches() || promise.matches()) {
                    sentences = new ArrayList<>();
                    parts.put(section.matches() ? section.group(1) : promise.group(1), sentences);
                } else if (line.startsWith("## ") || line.startsWith("The constants:")) {
                    sentences = new ArrayList<>();
                } else if (!line.isBlank() && !line.startsWith("---- ") && !line.startsWith("`")) {
                    // Not behind the dots of "a(1), a(2), .. a(k)".
                    sentences.addAll(List.of(line.split("(?<=[^.]\\.) ")));
                }
            }
        } catch (IOException e) {
            System.out.println("there is no " + DOCUMENT + ", the sentences are not compared with it");
        }
        return parts;
    }

    /** The next sentences are of this part. */
    static void part(String name) {
        part = name;
        Checks.heading(name);
    }

    /** The next checks are about these sentences, or these words of sentences, of the part. */
    static void say(String... words) {
        Checks.heading(part + ": " + String.join(" ", words));
        for (String some : words) {
            QUOTED.computeIfAbsent(part, key -> new ArrayList<>()).add(some);
            boolean stands = PARTS.getOrDefault(part, List.of()).stream().anyMatch(one -> one.contains(some));
            Checks.due("words that stand in the document", stands || PARTS.isEmpty(), true);
        }
    }

    /** Each sentence of the document has been the matter of some checks. */
    static void allSaid() {
        PARTS.forEach((name, sentences) -> {
            Checks.heading(name);
            for (String sentence : sentences) {
                boolean said = QUOTED.getOrDefault(name, List.of()).stream().anyMatch(sentence::contains);
                Checks.due("a check of: " + sentence, said, true);
            }
        });
    }
}
