import java.lang.annotation.ElementType;
import java.lang.annotation.Retention;
import java.lang.annotation.RetentionPolicy;
import java.lang.annotation.Target;
import java.lang.reflect.InvocationTargetException;
import java.lang.reflect.Method;
import java.nio.charset.StandardCharsets;
import java.util.ArrayList;
import java.util.Arrays;
import java.util.Comparator;
import java.util.List;

/**
 * What the tests by sentence share. Each of their methods quotes the words of the document that it looks at, behind
 * the section in which they stand: "t1: .." is part 1 of the terms, "26: .." promise 26.
 */
abstract class Sentences {
    @Retention(RetentionPolicy.RUNTIME)
    @Target(ElementType.METHOD)
    @interface Says {
        String[] value();
    }

    private static int wrong = 0;
    private static String where = "";

    static List<Method> methodsOf(Class<?> tests) {
        List<Method> all = new ArrayList<>();
        for (Method method : tests.getDeclaredMethods()) {
            if (method.isAnnotationPresent(Says.class)) {
                all.add(method);
            }
        }
        all.sort(Comparator.comparing(Method::getName));
        return all;
    }

    /** Runs all methods that quote, or those alone whose names are asked for. */
    static void run(Class<?> tests, String[] asked) throws IllegalAccessException {
        int ran = 0;
        for (Method method : methodsOf(tests)) {
            if (asked.length > 0 && !Arrays.asList(asked).contains(method.getName())) {
                continue;
            }
            where = method.getName() + " (" + String.join(" | ", method.getAnnotation(Says.class).value()) + ")";
            ran++;
            try {
                method.setAccessible(true);
                method.invoke(null);
            } catch (InvocationTargetException e) {
                wrong++;
                System.out.println(where + ": threw " + e.getCause());
            }
        }
        if (ran == 0) {
            wrong++;
            System.out.println("nothing was tested");
        }
        System.out.println(wrong == 0 ? ran + " sentences hold" : wrong + " answers are not as the sentences say");
        if (wrong != 0) {
            System.exit(1);
        }
    }

    static void due(String call, long got, long want) {
        if (got != want) {
            wrong++;
            System.out.println(where + ": " + call + " answered " + got + ", due is " + want);
        }
    }

    static void due(String call, boolean got, boolean want) {
        due(call, got ? 1 : 0, want ? 1 : 0);
    }

    /** The text is the whole tape then. */
    static void tape(TubBites t, String text) {
        byte[] bytes = text.getBytes(StandardCharsets.ISO_8859_1);
        byte[] padded = Arrays.copyOf(bytes, (bytes.length + 19) / 20 * 20);
        t.end(0);
        for (int i = 0; i < padded.length; i += 20) {
            int[] n = new int[5];
            for (int j = 0; j < 20; j++) {
                n[j / 4] = n[j / 4] << 8 | padded[i + j] & 255;
            }
            due("feed", t.feed(n[0], n[1], n[2], n[3], n[4]), i + 20);
        }
        due("end", t.end(bytes.length), bytes.length);
    }

    static TubBites of(String text) {
        TubBites t = new TubBites();
        tape(t, text);
        int apples = t.tub();
        if (apples < 0) {
            wrong++;
            System.out.println(where + ": fault " + t.fault(0) + " at " + t.fault(1) + " of " + text);
        }
        return t;
    }

    static void faulty(String text, int fault, int place) {
        TubBites t = new TubBites();
        tape(t, text);
        due("tub() of " + text, t.tub(), -1);
        due("fault(0) of " + text, t.fault(0), fault);
        due("fault(1) of " + text, t.fault(1), place);
    }

    /** The fault lies behind the head, at the first byte of the rest. */
    static void faulty(String head, String rest, int fault) {
        faulty(head + rest, fault, head.length());
    }

    static void lying(TubBites t, int... numbers) {
        due("about(13)", t.about(13), numbers.length);
        for (int i = 0; i < numbers.length; i++) {
            due("lies(" + i + ")", t.lies(i), numbers[i]);
        }
        due("lies(" + numbers.length + ")", t.lies(numbers.length), -1);
    }

    /** Where the first apples are: x, y of each. */
    static void at(TubBites t, int... cells) {
        for (int i = 0; i < cells.length; i += 2) {
            due("x of " + i / 2, t.apple(i / 2, 0), cells[i]);
            due("y of " + i / 2, t.apple(i / 2, 1), cells[i + 1]);
        }
    }

    static String many(String part, int times, String joint) {
        StringBuilder s = new StringBuilder();
        for (int i = 0; i < times; i++) {
            s.append(i == 0 ? "" : joint).append(part);
        }
        return s.toString();
    }

    /** The part again and again: # is a letter of its own each time, @ a cell of its own of six across. */
    static String numbered(String part, int times) {
        StringBuilder s = new StringBuilder();
        for (int i = 0; i < times; i++) {
            s.append(part.replace("#", "" + (char) ('a' + i)).replace("@", i % 6 + " " + i / 6));
        }
        return s.toString();
    }

    static String apple(char name, int x, int y) {
        return "apple " + name + " at " + x + " " + y + " size 9 soft 0;";
    }

    static String bobber(char name, int x, int y, int reach, int breath) {
        return "bobber " + name + " at " + x + " " + y + " reach " + reach + " breath " + breath + " mouth 0;";
    }

    /** Numbers that are none of what a call asks for: just beside it and far away. */
    static int[] beyond(int least, int most) {
        return new int[] {least - 1, most + 1, most + 32, most + 256, Integer.MIN_VALUE, Integer.MAX_VALUE};
    }
}
