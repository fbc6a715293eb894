import java.lang.reflect.Method;
import java.lang.reflect.Modifier;
import java.nio.file.Files;
import java.nio.file.Path;
import java.util.Arrays;
import java.util.List;
import java.util.regex.Matcher;
import java.util.regex.Pattern;
import java.util.stream.Stream;

/** README.md's examples, names and numbers hold for the class and for the tests: run from the project's root. */
public final class ReadmeTests {
    private static int wrong = 0;

    private static void must(boolean fine, String what) {
        if (!fine) {
            wrong++;
            System.out.println("not so: " + what);
        }
    }

    public static void main(String[] args) throws Exception {
        String readme = Files.readString(Path.of("README.md"));
        fedExample(readme);
        toldExample(readme);
        allCalls(readme);
        noAnswers();
        allTests(readme);
        System.out.println(wrong == 0 ? "README.md says what is so" : wrong + " things in README.md are not so");
        if (wrong != 0) {
            System.exit(1);
        }
    }

    private static void fedExample(String readme) {
        Matcher feed = Pattern.compile("t\\.feed\\(([^)]*)\\);\\s*// \"([^\"]*)\".*\n\\s*t\\.end\\((\\d+)\\);").matcher(readme);
        must(feed.find(), "an example feeds a text");
        int[] n = Arrays.stream(feed.group(1).split(", ")).mapToInt(Integer::decode).toArray();
        TubBites t = new TubBites();
        t.feed(n[0], n[1], n[2], n[3], n[4]);
        must(t.end(Integer.parseInt(feed.group(3))) == feed.group(2).length(), "what is fed is as long as " + feed.group(2));
        must(t.tub() == 0 && t.fault(0) == 0 && t.about(0) == 3 && t.about(1) == 2, "what is fed is " + feed.group(2));
    }

    private static void toldExample(String readme) {
        Matcher text = Pattern.compile("```text\n(.*?)```", Pattern.DOTALL).matcher(readme);
        must(text.find(), "a text is told");
        TubBites t = Sentences.of(text.group(1));
        must(t.fault(0) == 0 && t.about(2) == 1 && t.about(4) == 1 && t.about(5) == 2 && t.about(6) == 5, "it is told without a fault");
    }

    private static void allCalls(String readme) {
        String table = readme.substring(readme.indexOf("| for | calls |"), readme.indexOf("All but the text"));
        for (Method method : TubBites.class.getDeclaredMethods()) {
            if (Modifier.isPublic(method.getModifiers())) {
                must(table.contains("`" + method.getName() + "`"), "the table names " + method.getName());
            }
        }
    }

    private static void noAnswers() {
        TubBites t = new TubBites();
        must(t.apple(0, 0) == -2 && t.chooses(0) == -2 && t.drives(0, 1, 0) == -2 && t.waves(0, 0, 0) == -2 && t.gone(1) == -2, "-2");
        must(t.match(0, 0) == TubBites.GAP && TubBites.GAP == -1000000 && TubBites.NONE == -1, "GAP");
        must(!t.undo() && !t.redo() && !t.untell(0), "false");
        must(List.of(t.end(1), t.fault(2), t.bobber(0, 0), t.odds(0, 0, 0), t.go(0, 0, 0), t.breathe(0), t.wave(4), t.party(21),
            t.best(0, 0, 0), t.reply(0), t.record(0, 0, 0), t.easier(0, 0), t.seat(0, 1, 0), t.order(0), t.provide(0, 0),
            t.nearest(0, 0), t.fill(0, 0, 0), t.coin(0, 0), t.lies(0), t.pick(0, 1, 0), t.later(-1), t.image(3), t.back(0),
            t.about(14)).stream().allMatch(answer -> answer == TubBites.NONE), "NONE");
    }

    private static void allTests(String readme) throws Exception {
        try (Stream<Path> tests = Files.list(Path.of("src/test/java"))) {
            tests.map(test -> test.getFileName().toString().replace(".java", "")).filter(name -> name.endsWith("Tests"))
                .forEach(name -> must(readme.contains("- `" + name), "a line tells of " + name));
        }
    }
}
