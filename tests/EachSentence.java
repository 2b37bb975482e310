import java.nio.file.DirectoryStream;
import java.nio.file.Files;
import java.nio.file.Path;
import java.util.ArrayList;
import java.util.List;
import java.util.Map;
import java.util.TreeMap;
import java.util.regex.Matcher;
import java.util.regex.Pattern;

/** Each sentence of the document is named by a test of boundary cases, and what these name stands in the document. */
public final class EachSentence {
    private static final Path DOCUMENT = Path.of("../shared/DOC.md");
    // Of the terms and of how long an object is used; the promises have their own numbers.
    private static final int TERMS = 0;
    private static final Pattern NAMED = Pattern.compile("Due\\.says\\((\\d+), \"([^\"]*)\"\\)");
    // What may be left when all that is named is taken away: signs, and the marks between parts of the terms.
    private static final Pattern NOTHING = Pattern.compile("([^A-Za-z0-9]|==== \\d\\.)*");

    private static int wrong = 0;

    public static void main(String[] args) throws Exception {
        Map<Integer, String> sections = sections(Files.readString(DOCUMENT));
        Map<Integer, List<String>> named = named();
        for (int section : sections.keySet()) {
            compare(section, sections.get(section), named.getOrDefault(section, new ArrayList<>()));
        }
        if (sections.size() != 35) {
            fail("there are " + sections.size() + " sections, due are the terms and 34 promises");
        }
        System.out.println(wrong == 0 ? "each sentence has its test" : wrong + " sentences have no test, or tests no sentence");
        if (wrong != 0) {
            System.exit(1);
        }
    }

    private static void fail(String how) {
        wrong++;
        System.out.println(how);
    }

    private static void compare(int section, String text, List<String> named) {
        String left = text;
        named.sort((one, other) -> other.length() - one.length());
        for (String words : named) {
            if (!text.contains(words)) {
                fail("section " + section + " does not say: " + words);
            }
            left = left.replace(words, " ");
        }
        if (!NOTHING.matcher(left).matches()) {
            fail("section " + section + ", no test names: " + left.trim());
        }
    }

    private static Map<Integer, String> sections(String document) {
        Map<Integer, String> found = new TreeMap<>();
        StringBuilder terms = new StringBuilder();
        for (String section : document.split("\n## ")) {
            String body = section.substring(section.indexOf('\n') + 1).replaceAll("```\\w*", " ").replaceAll("\\s+", " ");
            if (section.startsWith("What it is")) {
                terms.append(body.substring(body.indexOf("An object is used")));
            } else if (section.startsWith("Terms")) {
                terms.append(body);
            } else if (section.startsWith("Promise ")) {
                int number = Integer.parseInt(section.substring(8, section.indexOf(':')));
                found.put(number, body.replaceFirst("`[^`]*`:", " "));
            }
        }
        found.put(TERMS, terms.toString());
        return found;
    }

    private static Map<Integer, List<String>> named() throws Exception {
        Map<Integer, List<String>> found = new TreeMap<>();
        try (DirectoryStream<Path> files = Files.newDirectoryStream(Path.of("tests"), "Boundaries*.java")) {
            for (Path file : files) {
                Matcher m = NAMED.matcher(Files.readString(file));
                while (m.find()) {
                    found.computeIfAbsent(Integer.parseInt(m.group(1)), k -> new ArrayList<>()).add(m.group(2));
                }
            }
        }
        return found;
    }
}
