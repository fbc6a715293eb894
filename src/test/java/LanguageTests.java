import java.lang.reflect.Constructor;
import java.lang.reflect.Field;
import java.lang.reflect.Method;
import java.lang.reflect.Modifier;
import java.nio.file.Files;
import java.nio.file.Path;
import java.util.Arrays;
import java.util.HashSet;
import java.util.List;
import java.util.Set;
import java.util.TreeSet;
import java.util.regex.Matcher;
import java.util.regex.Pattern;

/** Rules of LANGUAGE.md that can be seen in the class itself or in its text: run from the project's root. */
public final class LanguageTests {
    private static final String FACE = "int feed(int,int,int,int,int) int end(int) int tub() int fault(int) int apple(int,int) "
        + "int bobber(int,int) int odds(int,int,int) int chooses(int) int go(int,int,int) int breathe(int) int wave(int) "
        + "int party(int) boolean undo() boolean redo() int best(int,int,int) int match(int,int) int reply(int) int rests() "
        + "int record(int,int,int) int easier(int,int) int seat(int,int,int) int order(int) int drives(int,int,int) "
        + "int gone(int) int provide(int,int) int nearest(int,int) int waves(int,int,int) int fill(int,int,int) "
        + "int coin(int,int) int lies(int) int pick(int,int,int) boolean untell(int) int later(int) int fits(int) "
        + "long chance(int) int image(int) int back(int) int about(int)";

    private static int wrong = 0;

    private static void must(boolean fine, String what) {
        if (!fine) {
            wrong++;
            System.out.println("not so: " + what);
        }
    }

    public static void main(String[] args) throws Exception {
        face();
        members();
        text(Files.readString(Path.of("src/main/java/TubBites.java")));
        System.out.println(wrong == 0 ? "the class keeps to the rules that are looked at" : wrong + " rules are broken");
        if (wrong != 0) {
            System.exit(1);
        }
    }

    private static void face() {
        Set<String> asked = new TreeSet<>();
        Matcher m = Pattern.compile("\\w+ \\w+\\([a-z,]*\\)").matcher(FACE);
        while (m.find()) {
            asked.add(m.group());
        }
        Set<String> there = new TreeSet<>();
        for (Method method : TubBites.class.getDeclaredMethods()) {
            if (!Modifier.isPrivate(method.getModifiers())) {
                StringBuilder s = new StringBuilder();
                for (Class<?> type : method.getParameterTypes()) {
                    s.append(s.length() == 0 ? "" : ",").append(type.getSimpleName());
                }
                there.add(method.getReturnType().getSimpleName() + " " + method.getName() + "(" + s + ")");
                must(Modifier.isPublic(method.getModifiers()) && !Modifier.isStatic(method.getModifiers()), "public " + s);
            }
        }
        must(asked.size() == 38 && asked.equals(there), "the face is " + asked + ", not " + there);
        must(Modifier.isPublic(TubBites.class.getModifiers()) && Modifier.isFinal(TubBites.class.getModifiers()), "public final");
        Constructor<?>[] constructors = TubBites.class.getDeclaredConstructors();
        must(constructors.length == 1 && constructors[0].getParameterCount() == 0
            && Modifier.isPublic(constructors[0].getModifiers()), "one public constructor");
        Set<String> open = new HashSet<>();
        for (Field field : TubBites.class.getDeclaredFields()) {
            if (!Modifier.isPrivate(field.getModifiers())) {
                open.add(field.getName());
            }
        }
        must(open.equals(Set.of("NONE", "GAP")), "no other field than the constants: " + open);
    }

    private static void members() {
        Set<String> names = new HashSet<>();
        for (Method method : TubBites.class.getDeclaredMethods()) {
            if (Modifier.isPublic(method.getModifiers())) {
                names.add(method.getName());
            }
        }
        Class<?>[] all = Arrays.copyOf(TubBites.class.getDeclaredClasses(), TubBites.class.getDeclaredClasses().length + 1);
        all[all.length - 1] = TubBites.class;
        must(all.length <= 12, "classes: " + all.length);
        for (Class<?> one : all) {
            must(one == TubBites.class || Modifier.isStatic(one.getModifiers()), one + " is static");
            int fields = 0;
            for (Field field : one.getDeclaredFields()) {
                boolean isStatic = Modifier.isStatic(field.getModifiers());
                fields += isStatic ? 0 : 1;
                must(!isStatic || Modifier.isFinal(field.getModifiers()), field + " is final");
            }
            must(fields <= 20, one + " has fields: " + fields);
            for (Method method : one.getDeclaredMethods()) {
                must(method.getParameterCount() <= 7, method + " has few parameters");
                must(one == TubBites.class && Modifier.isPublic(method.getModifiers()) || !names.contains(method.getName()),
                    method + " bears a name of its own");
            }
        }
    }

    private static void text(String source) {
        must(source.chars().allMatch(c -> c == 10 || c >= 32 && c < 127), "plain signs alone");
        String code = Pattern.compile("/\\*.*?\\*/", Pattern.DOTALL).matcher(source).replaceAll("");
        code = code.replaceAll("\"[^\"]*\"", "\"\"").replaceAll("//[^\n]*", "");
        for (String word : List.of("throw", "throws", "try", "catch", "finally", "synchronized", "assert", "volatile",
            "transient", "native", "package", "Exception", "Error", "Random", "Thread", "Object", "instanceof", "var", "double", "float")) {
            must(!Pattern.compile("\\b" + word + "\\b").matcher(code).find(), "no " + word);
        }
        for (String sign : List.of("->", "::", "Exact(", "static {", "nanoTime", "currentTime", "getClass", "hashCode",
            "toString", "== \"")) {
            must(!code.contains(sign), "no " + sign);
        }
        Matcher calls = Pattern.compile("\\b(System|Arrays|Math|Integer|Long|String)\\.(\\w+)").matcher(code);
        while (calls.find()) {
            must(Set.of("arraycopy", "fill", "max", "min", "abs", "signum", "bitCount", "floorMod").contains(calls.group(2)),
                calls.group() + " is listed");
        }
        Matcher imports = Pattern.compile("import ([^;]*);").matcher(code);
        while (imports.find()) {
            must(imports.group(1).equals("java.util.Arrays"), "no import of " + imports.group(1));
        }
        must(!Pattern.compile("while \\(true\\)|for \\(;;\\)").matcher(code).find(), "loops have ends");
        shortMethods(code.split("\n"));
    }

    private static void shortMethods(String[] lines) {
        for (int i = 0; i < lines.length; i++) {
            Matcher head = Pattern.compile("( {4}| {8})[a-zA-Z].*\\) \\{").matcher(lines[i]);
            if (head.matches()) {
                int end = i;
                while (end < lines.length && !lines[end].equals(head.group(1) + "}")) {
                    end++;
                }
                must(end - i < 60, lines[i].trim() + " is short");
            }
        }
    }
}
