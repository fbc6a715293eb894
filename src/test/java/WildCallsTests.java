import java.lang.reflect.InvocationTargetException;
import java.lang.reflect.Method;
import java.lang.reflect.Modifier;
import java.nio.charset.StandardCharsets;
import java.util.ArrayList;
import java.util.Arrays;
import java.util.Comparator;
import java.util.List;
import java.util.Random;

/** Any numbers in any state: no call may throw, and the same calls always give the same answers. */
public final class WildCallsTests {
    private static final int[] EDGES = {Integer.MIN_VALUE, Integer.MIN_VALUE + 1, -1000000, -2, -1, 0, 1, 2, 3, 4, 5, 6, 7, 8, 9,
        10, 11, 20, 21, 30, 31, 32, 33, 60, 61, 63, 64, 999, 1000, 1001, 1023, 1024, 1600, 100000, Integer.MAX_VALUE};
    private static final String[] TEXTS = {
        "", "tub 1 by 1;", "tub 6 by 6;bobber a at 5 5 reach 5 breath 20 mouth 9;",
        "tub 1 by 1;apple a at 0 0 size 1 soft 0;",
        "tub 2 by 3;bite 0;odds free 0-1;odds lean 2147*9999*9999;rule a 1/(size-size);rule b 5%(tries-tries);"
            + "apple a at 0 0 size 99 soft 9 stalk coin 0;apple b at 1 0 size 1 soft 0;apple c at 1 2 size 3 soft 4;"
            + "bobber a at 0 0 reach 5 breath 20 mouth 0;bobber b at 1 2 reach 5 breath 0 mouth 9 by b;",
        "tub 6 by 6;draw 999;bite 5;rule a odds*100-far;rule b kind;rule c not tries;rule d breath<3 and kind=3;"
            + "apple a at 0 0 size 30 soft 9 stalk;apple b at 1 0 size 31 soft 0;apple c at 2 2 size 3 soft 4 stalk;"
            + "apple d at 3 3 size 9 soft 5;apple e at 4 4 size 9 soft 6;apple f at 5 5 size 9 soft 7;apple g at 2 3 size 9 soft 8;"
            + "apple h at 3 2 size 50 soft 5;apple i at 1 1 size 50 soft 5;apple j at 5 0 size 50 soft 5;"
            + "bobber a at 0 3 reach 5 breath 20 mouth 0 by a;bobber b at 3 0 reach 3 breath 3 mouth 9 by b;"
            + "bobber c at 5 3 reach 2 breath 9 mouth 3 by c;bobber d at 3 5 reach 1 breath 7 mouth 1 by d;"};

    public static void main(String[] args) throws Exception {
        long first = allRuns();
        long second = allRuns();
        if (first != second) {
            System.out.println("the same calls gave other answers");
            System.exit(1);
        }
        System.out.println("no call threw");
    }

    private static long allRuns() throws Exception {
        List<Method> methods = new ArrayList<>();
        for (Method method : TubBites.class.getDeclaredMethods()) {
            if (Modifier.isPublic(method.getModifiers())) {
                methods.add(method);
            }
        }
        methods.sort(Comparator.comparing(Method::getName));
        Random random = new Random(31);
        long sum = 0;
        for (int run = 0; run < 60; run++) {
            TubBites t = new TubBites();
            int calls = 0;
            while (calls < 512) {
                if (random.nextInt(40) == 0) {
                    calls += put(t, TEXTS[random.nextInt(TEXTS.length)]);
                }
                sum = sum * 31 + ask(t, methods.get(random.nextInt(methods.size())), random);
                calls++;
            }
        }
        return sum;
    }

    private static int put(TubBites t, String text) {
        byte[] bytes = Arrays.copyOf(text.getBytes(StandardCharsets.ISO_8859_1), (text.length() + 19) / 20 * 20);
        t.end(0);
        for (int i = 0; i < bytes.length; i += 20) {
            int[] n = new int[5];
            for (int j = 0; j < 20; j++) {
                n[j / 4] = n[j / 4] << 8 | bytes[i + j] & 255;
            }
            t.feed(n[0], n[1], n[2], n[3], n[4]);
        }
        t.end(text.length());
        if (t.tub() < 0) {
            System.out.println("fault " + t.fault(0) + " at " + t.fault(1) + " of " + text);
            System.exit(1);
        }
        return bytes.length / 20 + 3;
    }

    private static long ask(TubBites t, Method method, Random random) throws Exception {
        Object[] numbers = new Object[method.getParameterCount()];
        for (int i = 0; i < numbers.length; i++) {
            int pick = random.nextInt(8);
            numbers[i] = pick == 0 ? random.nextInt() : pick < 3 ? EDGES[random.nextInt(EDGES.length)] : random.nextInt(5);
        }
        try {
            Object answer = method.invoke(t, numbers);
            return answer instanceof Boolean ? ((Boolean) answer ? 1 : 0) : ((Number) answer).longValue();
        } catch (InvocationTargetException e) {
            System.out.println(method.getName() + Arrays.toString(numbers) + " threw " + e.getCause());
            System.exit(1);
            return 0;
        }
    }
}
