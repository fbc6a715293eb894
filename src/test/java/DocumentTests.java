import java.lang.reflect.Method;
import java.nio.file.Files;
import java.nio.file.Path;
import java.util.ArrayList;
import java.util.LinkedHashMap;
import java.util.List;
import java.util.Map;
import java.util.regex.Matcher;
import java.util.regex.Pattern;

/**
 * Holds the tests by sentence against the document: each quotes words that stand there, and each word of its terms
 * and promises stands in a quote. Run from the project's root.
 */
public final class DocumentTests {
    private static final Path DOCUMENT = Path.of("../shared/DOC.md");
    private static final List<Class<?>> TESTS =
        List.of(TextSentencesTests.class, PlaySentencesTests.class, SearchSentencesTests.class, SeenSentencesTests.class);

    private static final Map<String, String> SECTIONS = new LinkedHashMap<>();
    private static final Map<String, boolean[]> QUOTED = new LinkedHashMap<>();
    private static int wrong = 0;

    public static void main(String[] args) throws Exception {
        if (!Files.exists(DOCUMENT)) {
            System.out.println("no document here to hold the quotes against");
            return;
        }
        cutUp(Files.readString(DOCUMENT));
        int quotes = 0;
        for (Class<?> tests : TESTS) {
            for (Method method : Sentences.methodsOf(tests)) {
                for (String words : method.getAnnotation(Sentences.Says.class).value()) {
                    look(method.getName(), words);
                    quotes++;
                }
            }
        }
        for (String section : SECTIONS.keySet()) {
            unquoted(section);
        }
        System.out.println(wrong == 0 ? quotes + " quotes are the document's, and none of its words is left out" : wrong + " are not");
        if (wrong != 0) {
            System.exit(1);
        }
    }

    private static void keep(String section, String text) {
        String plain = text.replaceAll("```(text)?", " ").replaceAll("\\s+", " ");
        SECTIONS.put(section, plain);
        QUOTED.put(section, new boolean[plain.length()]);
    }

    private static void cutUp(String document) {
        Matcher terms = Pattern.compile("==== (\\d)\\.(.*?)(?=====|## Promise 1:|The constants:)", Pattern.DOTALL).matcher(document);
        while (terms.find()) {
            keep("t" + terms.group(1), terms.group(2));
        }
        Matcher constants = Pattern.compile("The constants:(.*?)## Promise 1:", Pattern.DOTALL).matcher(document);
        if (constants.find()) {
            keep("c", constants.group(1));
        }
        Matcher promises = Pattern.compile("## Promise (\\d+):[^\\n]*\\n\\s*`[^`]*`:(.*?)(?=## )", Pattern.DOTALL).matcher(document);
        while (promises.find()) {
            keep(promises.group(1), promises.group(2));
        }
        if (SECTIONS.size() != 4 + 1 + 39) {
            complain("the document has other sections: " + SECTIONS.keySet());
        }
    }

    private static void complain(String what) {
        wrong++;
        System.out.println(what);
    }

    /** A test may quote the same words in all places where they stand in a section. */
    private static void look(String test, String quote) {
        int colon = quote.indexOf(": ");
        String section = quote.substring(0, colon);
        String words = quote.substring(colon + 2);
        String text = SECTIONS.getOrDefault(section, "");
        int at = text.indexOf(words);
        if (at < 0) {
            complain(test + ": not in " + section + ": " + words);
        }
        while (at >= 0) {
            for (int i = at; i < at + words.length(); i++) {
                QUOTED.get(section)[i] = true;
            }
            at = text.indexOf(words, at + 1);
        }
    }

    private static void unquoted(String section) {
        String text = SECTIONS.get(section);
        boolean[] quoted = QUOTED.get(section);
        List<String> left = new ArrayList<>();
        StringBuilder run = new StringBuilder();
        for (int i = 0; i <= text.length(); i++) {
            if (i < text.length() && !quoted[i]) {
                run.append(text.charAt(i));
            } else {
                if (run.toString().matches("(?s).*[a-zA-Z0-9].*")) {
                    left.add(run.toString().trim());
                }
                run.setLength(0);
            }
        }
        for (String words : left) {
            complain("no test quotes, in " + section + ": " + words);
        }
    }
}
