import java.nio.charset.StandardCharsets;
import java.util.ArrayList;
import java.util.Arrays;
import java.util.HashSet;
import java.util.List;
import java.util.Random;
import java.util.Set;

/**
 * Random tubs and random calls, each answer held against a second model that is written from the document in
 * another way: trees for formulas, whole copies for undo, an exception for a fault. It has no limits of room.
 */
public final class PlainModelTests {
    private static int wrong = 0;

    public static void main(String[] args) {
        int tubs = args.length > 0 ? Integer.parseInt(args[0]) : 260;
        long seed = args.length > 1 ? Long.parseLong(args[1]) : 20261118L;
        Random random = new Random(seed);
        for (int i = 0; i < tubs && wrong < 20; i++) {
            oneObject(new Random(random.nextLong()), i);
        }
        System.out.println(wrong == 0 ? "all answers are as the plain model's" : wrong + " answers differ");
        if (wrong != 0) {
            System.exit(1);
        }
    }

    private static void oneObject(Random random, int run) {
        TubBites real = new TubBites();
        Plain plain = new Plain();
        StringBuilder told = new StringBuilder();
        int calls = 0;
        while (calls < 480 && wrong < 20) {
            if (calls % 120 == 0) {
                String text = Texts.tub(random);
                if (random.nextInt(4) == 0) {
                    text = Texts.spoil(random, text);
                }
                calls += give(real, plain, text, run, told);
            }
            String call = Texts.call(random, plain);
            long due = Calls.ask(plain, call);
            long got;
            try {
                got = Calls.ask(real, call);
            } catch (RuntimeException e) {
                got = Long.MIN_VALUE;
                e.printStackTrace(System.out);
            }
            calls++;
            told.append(' ').append(call);
            if (got != due) {
                wrong++;
                System.out.println("run " + run + ": " + call + " answered " + got + ", due is " + due + "; " + told);
            }
        }
    }

    private static int give(TubBites real, Plain plain, String text, int run, StringBuilder told) {
        byte[] bytes = text.getBytes(StandardCharsets.ISO_8859_1);
        int fed = 0;
        byte[] padded = Arrays.copyOf(bytes, (bytes.length + 19) / 20 * 20);
        real.end(0);
        for (int i = 0; i < padded.length; i += 20) {
            int[] n = new int[5];
            for (int j = 0; j < 20; j++) {
                n[j / 4] = n[j / 4] << 8 | padded[i + j] & 255;
            }
            real.feed(n[0], n[1], n[2], n[3], n[4]);
            fed++;
        }
        real.end(bytes.length);
        told.setLength(0);
        told.append('[').append(text).append(']');
        long due = plain.tub(text);
        long got = real.tub();
        if (got != due || real.fault(0) != plain.fault || real.fault(1) != plain.place) {
            wrong++;
            System.out.println("run " + run + ": tub() answered " + got + " fault " + real.fault(0) + " at "
                + real.fault(1) + ", due is " + due + " fault " + plain.fault + " at " + plain.place + "; " + told);
        }
        return fed + 5;
    }

    /** A call is told as its name and its numbers, so that both sides can be asked the same. */
    static final class Calls {
        static long ask(TubBites t, String call) {
            String[] w = call.split("[(,)]");
            int[] n = new int[4];
            for (int i = 1; i < w.length; i++) {
                n[i - 1] = Integer.parseInt(w[i]);
            }
            switch (w[0]) {
                case "apple": return t.apple(n[0], n[1]);
                case "bobber": return t.bobber(n[0], n[1]);
                case "odds": return t.odds(n[0], n[1], n[2]);
                case "chooses": return t.chooses(n[0]);
                case "go": return t.go(n[0], n[1], n[2]);
                case "breathe": return t.breathe(n[0]);
                case "wave": return t.wave(n[0]);
                case "party": return t.party(n[0]);
                case "undo": return t.undo() ? 1 : 0;
                case "redo": return t.redo() ? 1 : 0;
                case "best": return t.best(n[0], n[1], n[2]);
                case "match": return t.match(n[0], n[1]);
                case "reply": return t.reply(n[0]);
                case "rests": return t.rests();
                case "record": return t.record(n[0], n[1], n[2]);
                case "easier": return t.easier(n[0], n[1]);
                case "seat": return t.seat(n[0], n[1], n[2]);
                case "order": return t.order(n[0]);
                case "drives": return t.drives(n[0], n[1], n[2]);
                case "gone": return t.gone(n[0]);
                case "provide": return t.provide(n[0], n[1]);
                case "nearest": return t.nearest(n[0], n[1]);
                case "waves": return t.waves(n[0], n[1], n[2]);
                case "fill": return t.fill(n[0], n[1], n[2]);
                case "coin": return t.coin(n[0], n[1]);
                case "lies": return t.lies(n[0]);
                case "pick": return t.pick(n[0], n[1], n[2]);
                case "untell": return t.untell(n[0]) ? 1 : 0;
                case "later": return t.later(n[0]);
                case "fits": return t.fits(n[0]);
                case "chance": return t.chance(n[0]);
                case "image": return t.image(n[0]);
                case "back": return t.back(n[0]);
                case "about": return t.about(n[0]);
                default: throw new IllegalStateException(call);
            }
        }

        static long ask(Plain t, String call) {
            String[] w = call.split("[(,)]");
            int[] n = new int[4];
            for (int i = 1; i < w.length; i++) {
                n[i - 1] = Integer.parseInt(w[i]);
            }
            return t.ask(w[0], n[0], n[1], n[2]);
        }
    }

    /** Random texts and calls. */
    static final class Texts {
        private static final String[] SEEN =
            {"size", "soft", "stalk", "wall", "far", "tries", "mouth", "breath", "kind", "odds"};
        private static final String[] JOINTS = {"+", "-", "*", "/", "%", "<", ">", "=", " and ", " or "};
        private static final String[] KINDS = {"free", "stalk", "wall", "ground", "lean"};

        static String formula(Random r, int deep) {
            int pick = r.nextInt(10);
            if (deep == 0 || pick < 3) {
                return r.nextInt(3) == 0 ? "" + r.nextInt(r.nextBoolean() ? 10 : 120) : SEEN[r.nextInt(10)];
            }
            if (pick == 3) {
                return "(not " + formula(r, deep - 1) + ")";
            }
            if (pick == 4) {
                return "(" + formula(r, deep - 1) + ")";
            }
            String joint = JOINTS[r.nextInt(10)];
            String whole = formula(r, deep - 1) + joint + formula(r, deep - 1);
            return r.nextBoolean() ? "(" + whole + ")" : whole;
        }

        static String odds(Random r) {
            switch (r.nextInt(5)) {
                case 0: return "" + r.nextInt(110);
                case 1: return 20 + r.nextInt(60) + "-" + r.nextInt(20) + "*far+" + r.nextInt(9) + "*soft";
                case 2: return "90-size-" + r.nextInt(40) + "*tries";
                case 3: return r.nextInt(40) + "+mouth*" + r.nextInt(9) + "+breath*3";
                default: return formula(r, 3);
            }
        }

        static String tub(Random r) {
            StringBuilder t = new StringBuilder();
            int across = 1 + r.nextInt(6);
            int up = 1 + r.nextInt(6);
            t.append("tub ").append(across).append(" by ").append(up).append(';');
            for (String kind : KINDS) {
                if (r.nextInt(3) > 0) {
                    t.append("odds ").append(kind).append(' ').append(odds(r)).append(';');
                }
            }
            int rules = r.nextInt(7);
            for (int i = 0; i < rules; i++) {
                String e = r.nextInt(3) == 0 ? "odds" : formula(r, 2);
                t.append("rule r").append((char) ('a' + i)).append(' ').append(e).append(";\n");
            }
            if (r.nextBoolean()) {
                t.append("draw ").append(r.nextInt(1000)).append(';');
            }
            if (r.nextBoolean()) {
                t.append("bite ").append(r.nextInt(10)).append(';');
            }
            int most = Math.min(r.nextInt(4) == 0 ? 10 : 6, across * up);
            Set<Integer> cells = new HashSet<>();
            int apples = r.nextInt(most + 1);
            for (int i = 0; i < apples; i++) {
                int cell = r.nextInt(across * up);
                while (!cells.add(cell)) {
                    cell = r.nextInt(across * up);
                }
                t.append("apple a").append((char) ('a' + i)).append(" at ").append(cell % across).append(' ');
                t.append(cell / across).append(" size ").append(1 + r.nextInt(r.nextBoolean() ? 9 : 99));
                t.append(" soft ").append(r.nextInt(10)).append(r.nextBoolean() ? " stalk" : "");
                t.append(r.nextInt(3) == 0 ? " coin " + r.nextInt(20) : "").append(";");
            }
            int bobbers = r.nextInt(5);
            for (int i = 0; i < bobbers; i++) {
                t.append("bobber b").append((char) ('a' + i)).append(" at ").append(r.nextInt(across)).append(' ');
                t.append(r.nextInt(up)).append(" reach ").append(r.nextInt(6)).append(" breath ");
                t.append(r.nextInt(r.nextBoolean() ? 5 : 21)).append(" mouth ").append(r.nextInt(r.nextBoolean() ? 3 : 10));
                t.append(rules > 0 && r.nextBoolean() ? " by r" + (char) ('a' + r.nextInt(rules)) : "").append(';');
            }
            return t.toString();
        }

        static String spoil(Random r, String text) {
            StringBuilder t = new StringBuilder(text);
            for (int n = 1 + r.nextInt(2); n > 0; n--) {
                int at = r.nextInt(t.length());
                switch (r.nextInt(4)) {
                    case 0: t.deleteCharAt(at); break;
                    case 1: t.insert(at, " ;();0123456789abtub$not<".charAt(r.nextInt(24))); break;
                    case 2: t.setCharAt(at, (char) r.nextInt(256)); break;
                    default: t.setLength(Math.max(1, at)); break;
                }
            }
            return t.toString();
        }

        static String call(Random r, Plain p) {
            int b = r.nextInt(12) == 0 ? r.nextInt(9) - 2 : r.nextInt(Math.max(1, p.toldBobbers()));
            int c = r.nextInt(12) == 0 ? r.nextInt(9) - 2 : r.nextInt(Math.max(1, p.toldBobbers()));
            int a = r.nextInt(12) == 0 ? r.nextInt(14) - 2 : r.nextInt(Math.max(1, p.toldApples()));
            int k = r.nextInt(8) - 1;
            int w = r.nextInt(12) == 0 ? -1 : r.nextInt(4);
            int rule = r.nextInt(Math.max(1, p.toldRules()) + 1) - (r.nextInt(8) == 0 ? 1 : 0);
            int set = r.nextInt(10) == 0 ? r.nextInt() : r.nextInt(1 << p.toldApples());
            switch (r.nextInt(40)) {
                case 0: return "apple(" + a + "," + (r.nextInt(7) - 1) + ")";
                case 1: return "bobber(" + b + "," + w + ")";
                case 2: return "odds(" + b + "," + a + "," + k + ")";
                case 3: return "chooses(" + b + ")";
                case 4: case 5: case 6: return "go(" + b + "," + a + "," + k + ")";
                case 7: return "breathe(" + b + ")";
                case 8: return "wave(" + (r.nextInt(6) - 1) + ")";
                case 9: return "party(" + (r.nextInt(8) == 0 ? r.nextInt(26) - 2 : r.nextInt(3)) + ")";
                case 10: case 11: return "undo";
                case 12: return "redo";
                case 13: return "best(" + b + "," + (r.nextInt(11) - 1) + "," + w + ")";
                case 14: return "match(" + rule + "," + (r.nextInt(7) - 1) + ")";
                case 15: return "reply(" + rule + ")";
                case 16: return "rests";
                case 17: return "record(" + b + "," + k + "," + w + ")";
                case 18: return "easier(" + b + "," + a + ")";
                case 19: return "seat(" + b + "," + r.nextInt(12) + "," + w + ")";
                case 20: return "order(" + r.nextInt(12) + ")";
                case 21: return "drives(" + b + "," + c + "," + a + ")";
                case 22: return "gone(" + set + ")";
                case 23: return "provide(" + r.nextInt(r.nextInt(5) == 0 ? 62 : 12) + "," + w + ")";
                case 24: return "nearest(" + w + "," + (r.nextInt(30) - 2) + ")";
                case 25: return "waves(" + a + "," + (r.nextInt(8) - 1) + "," + (r.nextInt(8) - 1) + ")";
                case 26: return "fill(" + b + "," + (r.nextInt(9) == 0 ? r.nextInt(1200) - 50 : r.nextInt(80)) + "," + w + ")";
                case 27: return "coin(" + a + "," + w + ")";
                case 28: case 29: return "lies(" + (r.nextInt(8) - 1) + ")";
                case 30: case 31: return "pick(" + b + "," + set + "," + a + ")";
                case 32: return "untell(" + (r.nextInt(12) - 1) + ")";
                case 33: return "later(" + (r.nextInt(10) == 0 ? r.nextInt(1300) - 100 : r.nextInt(3)) + ")";
                case 34: return "fits(" + (r.nextInt(30) - 2) + ")";
                case 35: return "chance(" + (r.nextInt(30) - 2) + ")";
                case 36: return "image(" + (r.nextInt(5) - 1) + ")";
                case 37: return "back(" + (r.nextInt(5) - 1) + ")";
                default: return "about(" + (r.nextInt(16) - 1) + ")";
            }
        }
    }

    /** The second model. */
    static final class Plain {
        int fault = 0;
        int place = -1;
        private Text told = new Text("");
        private World now = new World(told);
        private List<World> past = new ArrayList<>();
        private List<World> future = new ArrayList<>();
        private World[] boxes = new World[3];
        private List<int[]> picks = new ArrayList<>();
        private List<Integer> lie = new ArrayList<>();
        private int time = 0;

        int toldApples() {
            return told.apples.size();
        }

        int toldBobbers() {
            return told.bobbers.size();
        }

        int toldRules() {
            return told.rules.size();
        }

        long tub(String text) {
            try {
                Text read = new Text(text);
                told = read;
            } catch (Fault f) {
                fault = f.code;
                place = f.place;
                return -1;
            }
            fault = 0;
            place = -1;
            now = new World(told);
            past.clear();
            future.clear();
            boxes = new World[3];
            picks.clear();
            lie.clear();
            return told.apples.size();
        }

        private boolean isB(int b) {
            return b >= 0 && b < toldBobbers();
        }

        private boolean isA(int a) {
            return a >= 0 && a < toldApples();
        }

        private boolean isR(int r) {
            return r >= 0 && r < toldRules();
        }

        private boolean in(int a, int low, int high) {
            return a >= low && a <= high;
        }

        private void act(World before) {
            past.add(before);
            if (past.size() > 40) {
                past.remove(0);
            }
            future.clear();
        }

        private List<Integer> afloat() {
            List<Integer> all = new ArrayList<>();
            for (int a = 0; a < toldApples(); a++) {
                if (now.afloat(a)) {
                    all.add(a);
                }
            }
            return all;
        }

        private int ruleOf(int b) {
            return told.rules.isEmpty() ? -1 : told.bobbers.get(b).rule;
        }

        private int party(World w, List<Integer> who, List<Integer> by, int turns) {
            int got = 0;
            for (int t = 0; t < turns; t++) {
                for (int i = 0; i < who.size(); i++) {
                    got += w.turn(who.get(i), by.get(i)) ? 1 : 0;
                }
            }
            return got;
        }

        private List<Integer> allBobbers() {
            List<Integer> all = new ArrayList<>();
            for (int b = 0; b < toldBobbers(); b++) {
                all.add(b);
            }
            return all;
        }

        private List<Integer> rulesOf(List<Integer> who) {
            List<Integer> by = new ArrayList<>();
            for (int b : who) {
                by.add(ruleOf(b));
            }
            return by;
        }

        long ask(String name, int a, int b, int c) {
            switch (name) {
                case "apple":
                    if (!isA(a) || !in(b, 0, 4)) {
                        return -2;
                    }
                    return new int[] {now.x[a], now.y[a], now.owner[a], now.missed[a], now.size[a]}[b];
                case "bobber":
                    if (!isB(a) || !in(b, 0, 2)) {
                        return -1;
                    }
                    return new int[] {now.breath[a], now.got[a], now.seconds[a]}[b];
                case "odds":
                    return isB(a) && isA(b) && in(c, 0, 4) && now.can(a, b, c) ? now.odds(a, b, c) : -1;
                case "chooses":
                    return isB(a) ? now.choice(a, ruleOf(a)) : -2;
                case "go": {
                    if (!isB(a) || !isA(b) || !in(c, 0, 4) || !now.can(a, b, c)) {
                        return -1;
                    }
                    World before = now.copy();
                    boolean got = now.earnest(a, b, c);
                    act(before);
                    return got ? 1 : 0;
                }
                case "breathe": {
                    if (!isB(a)) {
                        return -1;
                    }
                    act(now.copy());
                    now.breathe(a);
                    return told.bobbers.get(a).breath;
                }
                case "wave":
                    if (!in(a, 0, 3)) {
                        return -1;
                    }
                    act(now.copy());
                    return now.wave(a);
                case "party":
                    if (!in(a, 0, 20)) {
                        return -1;
                    }
                    act(now.copy());
                    return party(now, allBobbers(), rulesOf(allBobbers()), a);
                case "undo":
                    if (past.isEmpty()) {
                        return 0;
                    }
                    future.add(now);
                    now = past.remove(past.size() - 1);
                    return 1;
                case "redo":
                    if (future.isEmpty()) {
                        return 0;
                    }
                    past.add(now);
                    now = future.remove(future.size() - 1);
                    return 1;
                default:
                    return askMore(name, a, b, c);
            }
        }

        private long askMore(String name, int a, int b, int c) {
            switch (name) {
                case "best": {
                    if (!isB(a) || !in(b, 0, 8) || !in(c, 0, 2)) {
                        return -1;
                    }
                    int[] looks = {0};
                    long[] best = now.best(a, b, looks);
                    if (looks[0] > 20000) {
                        return -2;
                    }
                    return c == 0 ? best[0] : c == 1 ? Math.max(-1, best[1]) : best[1] == -5 ? 1 : 0;
                }
                case "match":
                    return toldBobbers() < 2 || !isR(a) || !isR(b) ? -1000000 : match(a, b);
                case "reply": {
                    if (toldBobbers() < 2 || !isR(a)) {
                        return -1;
                    }
                    int best = 0;
                    for (int r = 0; r < toldRules(); r++) {
                        best = match(r, a) > match(best, a) ? r : best;
                    }
                    return best;
                }
                case "rests":
                    return rests();
                case "record":
                    return isB(a) && in(b, 0, 4) && in(c, 0, 2) ? now.records[a][b][c] : -1;
                case "easier": {
                    if (!isB(a) || !isA(b) || !now.can(a, b, 0)) {
                        return -1;
                    }
                    int n = 0;
                    for (int o : afloat()) {
                        n += now.can(a, o, 0) && now.odds(a, o, 0) > now.odds(a, b, 0) ? 1 : 0;
                    }
                    return n;
                }
                case "seat":
                    return seat(a, b, c);
                case "order":
                    return order(a);
                case "drives":
                    return drives(a, b, c);
                case "gone":
                    return isSet(a) && afloat().containsAll(members(a)) ? gone(a) : -2;
                case "provide":
                    return provide(a, b);
                case "nearest":
                    return nearest(a, b);
                case "waves":
                    return waves(a, b, c);
                case "fill":
                    return fill(a, b, c);
                default:
                    return askRest(name, a, b, c);
            }
        }

        private long askRest(String name, int a, int b, int c) {
            switch (name) {
                case "coin": {
                    if (!isA(a) || !in(b, 0, 1)) {
                        return -1;
                    }
                    int all = 0;
                    for (int o : afloat()) {
                        all += told.apples.get(o).coin;
                    }
                    int own = now.afloat(a) ? told.apples.get(a).coin : 0;
                    int top = all == 0 ? 0 : own;
                    int bottom = all == 0 ? 1 : all;
                    int g = java.math.BigInteger.valueOf(top).gcd(java.math.BigInteger.valueOf(bottom)).intValue();
                    return b == 0 ? top / g : bottom / g;
                }
                case "lies":
                    return in(a, 0, lie.size() - 1) ? lie.get(a) : -1;
                case "pick":
                    if (!isB(a) || !isSet(b) || !isA(c) || !members(b).contains(c) || picks.size() == 30) {
                        return -1;
                    }
                    picks.add(new int[] {a, b, c, time, Integer.MAX_VALUE});
                    return picks.size() - 1;
                case "untell":
                    if (!in(a, 0, picks.size() - 1) || picks.get(a)[4] != Integer.MAX_VALUE) {
                        return 0;
                    }
                    picks.get(a)[4] = time;
                    return 1;
                case "later":
                    if (!in(a, 0, 1000) || time + a > 100000) {
                        return -1;
                    }
                    time += a;
                    return time;
                case "fits": {
                    int bits = 0;
                    for (int r = 0; r < toldRules(); r++) {
                        bits |= misfits(r, a) == 0 ? 1 << r : 0;
                    }
                    return bits;
                }
                case "chance": {
                    java.math.BigInteger all = java.math.BigInteger.ONE;
                    for (int[] p : known(a)) {
                        all = all.multiply(java.math.BigInteger.valueOf(members(p[1]).size()));
                    }
                    return all.min(java.math.BigInteger.TEN.pow(15)).longValueExact();
                }
                case "image":
                    if (!in(a, 0, 2)) {
                        return -1;
                    }
                    boxes[a] = now.copy();
                    return afloat().size();
                case "back":
                    if (!in(a, 0, 2) || boxes[a] == null) {
                        return -1;
                    }
                    now = boxes[a].copy();
                    past.clear();
                    future.clear();
                    return afloat().size();
                case "about": {
                    int[] all = {told.across, told.up, toldApples(), afloat().size(), toldBobbers(), toldRules(),
                        now.seed, past.size(), future.size(), picks.size(), time, 0, told.units, lie.size()};
                    return in(a, 0, 13) ? all[a] : -1;
                }
                default:
                    throw new IllegalStateException(name);
            }
        }

        private boolean isSet(int bits) {
            return bits >= 0 && bits >>> toldApples() == 0;
        }

        private static List<Integer> members(int bits) {
            List<Integer> all = new ArrayList<>();
            for (int a = 0; a < 10; a++) {
                if ((bits >>> a) % 2 == 1) {
                    all.add(a);
                }
            }
            return all;
        }

        private int match(int one, int two) {
            World w = now.copy();
            int before = w.got[0] - w.got[1];
            party(w, List.of(0, 1), List.of(one, two), 10);
            return w.got[0] - w.got[1] - before;
        }

        private int rests() {
            lie.clear();
            for (int i = 0; i < toldRules() && toldBobbers() > 1; i++) {
                for (int j = 0; j < toldRules(); j++) {
                    boolean rests = true;
                    for (int o = 0; o < toldRules(); o++) {
                        rests &= match(o, j) <= match(i, j) && match(i, o) >= match(i, j);
                    }
                    if (rests) {
                        lie.add(10 * i + j);
                    }
                }
            }
            return lie.size();
        }

        private int seat(int b, int n, int what) {
            if (!isB(b) || !in(n, 1, 10) || !in(what, 0, 2)) {
                return -1;
            }
            int[] best = null;
            for (int cell = 0; cell < told.across * told.up; cell++) {
                int x = cell % told.across;
                int y = cell / told.across;
                if (told.rim(x, y)) {
                    World w = now.copy();
                    w.kx[b] = x;
                    w.ky[b] = y;
                    int got = party(w, List.of(b), List.of(ruleOf(b)), n);
                    if (best == null || got > best[2]) {
                        best = new int[] {x, y, got};
                    }
                }
            }
            return best[what];
        }

        private int order(int n) {
            lie.clear();
            if (!in(n, 1, 10)) {
                return -1;
            }
            List<List<Integer>> all = new ArrayList<>();
            orders(new ArrayList<>(), all);
            int most = -1;
            for (List<Integer> one : all) {
                int got = party(now.copy(), one, rulesOf(one), n);
                if (got > most) {
                    most = got;
                    lie = new ArrayList<>(one);
                }
            }
            return most;
        }

        private void orders(List<Integer> part, List<List<Integer>> all) {
            if (part.size() == toldBobbers()) {
                all.add(new ArrayList<>(part));
            }
            for (int b = 0; b < toldBobbers(); b++) {
                if (!part.contains(b)) {
                    part.add(b);
                    orders(part, all);
                    part.remove(part.size() - 1);
                }
            }
        }

        private int drives(int b, int o, int a) {
            lie.clear();
            if (!isB(b) || !isB(o) || b == o || !isA(a) || !now.afloat(a)) {
                return -2;
            }
            List<World> worlds = new ArrayList<>(List.of(now));
            List<List<Integer>> ways = new ArrayList<>(List.of(List.of()));
            for (int n = 0; n <= 4; n++) {
                List<World> next = new ArrayList<>();
                List<List<Integer>> nextWays = new ArrayList<>();
                for (int i = 0; i < worlds.size(); i++) {
                    if (worlds.get(i).can(o, a, 0)) {
                        lie = new ArrayList<>(ways.get(i));
                        return n;
                    }
                    for (int t = 0; t < toldApples() && n < 4; t++) {
                        if (worlds.get(i).can(b, t, 0)) {
                            World w = worlds.get(i).copy();
                            w.miss(b, t, 0);
                            List<Integer> way = new ArrayList<>(ways.get(i));
                            way.add(t);
                            next.add(w);
                            nextWays.add(way);
                        }
                    }
                }
                worlds = next;
                ways = nextWays;
            }
            return -1;
        }

        private int waves(int a, int x, int y) {
            lie.clear();
            if (!isA(a) || !now.afloat(a) || !in(x, 0, told.across - 1) || !in(y, 0, told.up - 1)) {
                return -2;
            }
            for (int n = 0; n <= 6; n++) {
                for (int code = 0; code < 1 << 2 * n; code++) {
                    World w = now.copy();
                    List<Integer> way = new ArrayList<>();
                    for (int i = n - 1; i >= 0; i--) {
                        w.wave(code >> 2 * i & 3);
                        way.add(code >> 2 * i & 3);
                    }
                    if (w.x[a] == x && w.y[a] == y) {
                        lie = way;
                        return n;
                    }
                }
            }
            return -1;
        }

        private int gone(int set) {
            World w = now.copy();
            for (int a = 0; a < toldApples(); a++) {
                if (!members(set).contains(a)) {
                    w.owner[a] = 7;
                }
            }
            for (int turn = 0; turn <= 60; turn++) {
                boolean some = false;
                for (int a = 0; a < toldApples(); a++) {
                    some |= w.afloat(a);
                }
                if (!some) {
                    return turn;
                }
                party(w, allBobbers(), rulesOf(allBobbers()), 1);
            }
            return -1;
        }

        private int provide(int n, int what) {
            if (!in(n, 1, 60) || !in(what, 0, 1)) {
                return -1;
            }
            int best = -1;
            for (int set = 1; set < 1 << toldApples(); set++) {
                if (afloat().containsAll(members(set))
                    && (best == -1 || members(set).size() < members(best).size())) {
                    int gone = gone(set);
                    if (gone == -1 || gone > n) {
                        best = set;
                    }
                }
            }
            return best == -1 || what == 1 ? best : members(best).size();
        }

        private int fill(int b, int room, int what) {
            if (!isB(b) || !in(room, 0, 999) || !in(what, 0, 1)) {
                return -1;
            }
            int best = 0;
            int bestLasts = 0;
            for (int set = 0; set < 1 << toldApples(); set++) {
                int size = 0;
                int lasts = 0;
                for (int a : members(set)) {
                    size += now.afloat(a) ? now.size[a] : 100000;
                    int odds = now.odds(b, a, 0);
                    lasts += odds == 0 ? 9999 : 1000 / odds;
                }
                if (size <= room && lasts > bestLasts) {
                    best = set;
                    bestLasts = lasts;
                }
            }
            return what == 0 ? best : bestLasts;
        }

        private List<int[]> known(int k) {
            List<int[]> all = new ArrayList<>();
            for (int[] p : picks) {
                if (p[3] <= k && !(p[4] <= k)) {
                    all.add(p);
                }
            }
            return all;
        }

        private int misfits(int rule, int k) {
            World w = new World(told);
            int n = 0;
            for (int[] p : known(k)) {
                long most = Long.MIN_VALUE;
                int first = -1;
                for (int a : members(p[1])) {
                    long worth = w.worth(p[0], a, 0, rule);
                    if (worth > most) {
                        most = worth;
                        first = a;
                    }
                }
                n += first == p[2] ? 0 : 1;
            }
            return n;
        }

        private int nearest(int what, int k) {
            if (!in(what, 0, 1) || toldRules() == 0) {
                return -1;
            }
            int best = 0;
            for (int r = 1; r < toldRules(); r++) {
                best = misfits(r, k) < misfits(best, k) ? r : best;
            }
            return what == 0 ? best : misfits(best, k);
        }
    }

    static final class Fault extends RuntimeException {
        private static final long serialVersionUID = 1L;
        final int code;
        final int place;

        Fault(int code, int place) {
            this.code = code;
            this.place = place;
        }
    }

    static final class AppleTold {
        String name;
        int x;
        int y;
        int size;
        int soft;
        int coin = 1;
        boolean stalk;
    }

    static final class BobberTold {
        String name;
        int x;
        int y;
        int reach;
        int breath;
        int mouth;
        int rule;
    }

    /** A tree of a formula: a leaf has a word or a number, others an operator and parts. */
    static final class Tree {
        final String what;
        final Tree left;
        final Tree right;

        Tree(String what, Tree left, Tree right) {
            this.what = what;
            this.left = left;
            this.right = right;
        }

        int value(java.util.Map<String, Integer> seen) {
            if (left == null) {
                return Character.isDigit(what.charAt(0)) ? Integer.parseInt(what) : seen.get(what);
            }
            int a = left.value(seen);
            if (what.equals("not")) {
                return a == 0 ? 1 : 0;
            }
            int b = right.value(seen);
            switch (what) {
                case "+": return a + b;
                case "-": return a - b;
                case "*": return a * b;
                case "/": return b == 0 ? 0 : a / b;
                case "%": return b == 0 ? 0 : a % b;
                case "<": return a < b ? 1 : 0;
                case ">": return a > b ? 1 : 0;
                case "=": return a == b ? 1 : 0;
                case "and": return a != 0 && b != 0 ? 1 : 0;
                case "or": return a != 0 || b != 0 ? 1 : 0;
                default: throw new IllegalStateException(what);
            }
        }
    }

    /** A text that was read, or a Fault. */
    static final class Text {
        private static final List<String> OWN = List.of("tub", "by", "odds", "free", "stalk", "wall", "ground", "lean",
            "rule", "apple", "at", "size", "soft", "coin", "bobber", "reach", "breath", "mouth", "draw", "bite", "or",
            "and", "not", "far", "tries", "kind");
        private static final List<String> KINDS = List.of("free", "stalk", "wall", "ground", "lean");
        private static final List<String> UNITS =
            List.of("size", "soft", "stalk", "wall", "far", "tries", "mouth", "breath", "kind", "odds");

        int across;
        int up;
        int units;
        int draw;
        int bite = 10;
        final Tree[] odds = new Tree[5];
        final List<String> ruleNames = new ArrayList<>();
        final List<Tree> rules = new ArrayList<>();
        final List<AppleTold> apples = new ArrayList<>();
        final List<BobberTold> bobbers = new ArrayList<>();
        private final List<String> tokens = new ArrayList<>();
        private final List<Integer> places = new ArrayList<>();
        private int at;
        private int unitsHere;

        Text(String text) {
            cut(text);
            Set<String> once = new HashSet<>();
            while (!here().isEmpty()) {
                line(once);
            }
        }

        private void cut(String text) {
            java.util.regex.Matcher m =
                java.util.regex.Pattern.compile("[ \\n]+|([a-z]+)|([0-9]+)([a-z]?)|[;()<>=+*/%-]|([\\x00-\\xff])")
                    .matcher(text);
            int from = 0;
            while (from < text.length() && m.find(from)) {
                String t = m.group();
                int end = m.end();
                boolean bad = m.group(4) != null;
                if (m.group(1) != null) {
                    bad = t.length() > 8;
                } else if (m.group(2) != null) {
                    bad = m.group(2).length() > 4 || !m.group(3).isEmpty();
                }
                if (bad) {
                    tokens.add("?");
                    places.add(from);
                    return;
                }
                if (t.charAt(0) != ' ' && t.charAt(0) != '\n') {
                    tokens.add(t);
                    places.add(from);
                }
                from = end;
            }
            tokens.add("");
            places.add(text.length());
        }

        private String here() {
            return tokens.get(at);
        }

        private RuntimeException bad(int code) {
            return new Fault(here().equals("?") ? 1 : code, places.get(at));
        }

        private void must(boolean fine, int code) {
            if (!fine) {
                throw bad(code);
            }
        }

        private void word(String w) {
            must(here().equals(w), 2);
            at++;
        }

        private boolean maybe(String w) {
            if (here().equals(w)) {
                at++;
                return true;
            }
            return false;
        }

        private boolean isNumber() {
            return !here().isEmpty() && Character.isDigit(here().charAt(0));
        }

        private int number(int low, int high) {
            must(isNumber(), 2);
            int n = Integer.parseInt(here());
            must(n >= low && n <= high, 4);
            at++;
            return n;
        }

        private String name() {
            must(!here().isEmpty() && Character.isLowerCase(here().charAt(0)) && !OWN.contains(here()), 2);
            return here();
        }

        boolean rim(int x, int y) {
            return x == 0 || y == 0 || x + 1 == across || y + 1 == up;
        }

        private void line(Set<String> once) {
            String first = here();
            must(List.of("tub", "odds", "rule", "apple", "bobber", "draw", "bite").contains(first), 2);
            must(first.equals("tub") == once.isEmpty(), 2);
            if (!List.of("odds", "rule", "apple", "bobber").contains(first)) {
                must(once.add(first), 2);
            }
            must(!(first.equals("rule") && rules.size() == 6), 2);
            must(!(first.equals("apple") && apples.size() == 10), 2);
            must(!(first.equals("bobber") && bobbers.size() == 4), 2);
            at++;
            if (first.equals("tub")) {
                across = number(1, 6);
                word("by");
                up = number(1, 6);
            } else if (first.equals("odds")) {
                must(KINDS.contains(here()) && once.add("odds " + here()), 2);
                int kind = KINDS.indexOf(here());
                at++;
                unitsHere = 0;
                odds[kind] = e(0);
            } else if (first.equals("rule")) {
                must(!ruleNames.contains(name()), 3);
                ruleNames.add(here());
                at++;
                unitsHere = 0;
                rules.add(e(0));
            } else if (first.equals("apple")) {
                apple();
            } else if (first.equals("bobber")) {
                bobber();
            } else if (first.equals("draw")) {
                draw = number(0, 999);
            } else {
                bite = number(0, 9);
            }
            word(";");
        }

        private void apple() {
            AppleTold a = new AppleTold();
            a.name = name();
            for (AppleTold o : apples) {
                must(!o.name.equals(a.name), 3);
            }
            at++;
            word("at");
            a.x = number(0, across - 1);
            int second = at;
            a.y = number(0, up - 1);
            for (AppleTold o : apples) {
                if (o.x == a.x && o.y == a.y) {
                    at = second;
                    throw bad(3);
                }
            }
            word("size");
            a.size = number(1, 99);
            word("soft");
            a.soft = number(0, 9);
            a.stalk = maybe("stalk");
            if (maybe("coin")) {
                a.coin = number(0, 99);
            }
            apples.add(a);
        }

        private void bobber() {
            BobberTold b = new BobberTold();
            b.name = name();
            for (BobberTold o : bobbers) {
                must(!o.name.equals(b.name), 3);
            }
            at++;
            word("at");
            b.x = number(0, across - 1);
            b.y = number(0, up - 1);
            word("reach");
            b.reach = number(0, 5);
            word("breath");
            b.breath = number(0, 20);
            word("mouth");
            b.mouth = number(0, 9);
            if (maybe("by")) {
                b.rule = ruleNames.indexOf(name());
                must(b.rule >= 0, 5);
                at++;
            }
            bobbers.add(b);
        }

        private Tree e(int within) {
            Tree t = both(within);
            while (maybe("or")) {
                t = new Tree("or", t, both(within));
            }
            return t;
        }

        private Tree both(int within) {
            Tree t = one(within);
            while (maybe("and")) {
                t = new Tree("and", t, one(within));
            }
            return t;
        }

        private Tree one(int within) {
            if (here().equals("not")) {
                must(within < 7, 2);
                at++;
                return new Tree("not", one(within + 1), null);
            }
            Tree t = sum(within);
            for (String relation : List.of("<", ">", "=")) {
                if (maybe(relation)) {
                    return new Tree(relation, t, sum(within));
                }
            }
            return t;
        }

        private Tree sum(int within) {
            Tree t = term(within);
            while (here().equals("+") || here().equals("-")) {
                String joint = tokens.get(at++);
                t = new Tree(joint, t, term(within));
            }
            return t;
        }

        private Tree term(int within) {
            Tree t = unit(within);
            while (here().equals("*") || here().equals("/") || here().equals("%")) {
                String joint = tokens.get(at++);
                t = new Tree(joint, t, unit(within));
            }
            return t;
        }

        private Tree unit(int within) {
            boolean open = here().equals("(");
            must(open || isNumber() || UNITS.contains(here()), 2);
            units++;
            unitsHere++;
            must(units <= 90 && unitsHere <= 30 && !(open && within >= 7), 2);
            Tree t = new Tree(tokens.get(at++), null, null);
            if (open) {
                t = e(within + 1);
                word(")");
            }
            return t;
        }
    }

    /** Apples, bobbers, records, seed. */
    static final class World {
        private final Text told;
        int[] x = new int[10];
        int[] y = new int[10];
        int[] owner = new int[10];
        int[] missed = new int[10];
        int[] size = new int[10];
        int[] kx = new int[4];
        int[] ky = new int[4];
        int[] breath = new int[4];
        int[] got = new int[4];
        int[] seconds = new int[4];
        int[][][] records = new int[4][5][3];
        int seed;

        World(Text told) {
            this.told = told;
            seed = told.draw;
            for (int a = 0; a < told.apples.size(); a++) {
                AppleTold t = told.apples.get(a);
                x[a] = t.x;
                y[a] = t.y;
                size[a] = t.size;
                owner[a] = -1;
            }
            for (int b = 0; b < told.bobbers.size(); b++) {
                BobberTold t = told.bobbers.get(b);
                kx[b] = t.x;
                ky[b] = t.y;
                breath[b] = t.breath;
            }
        }

        World copy() {
            World w = new World(told);
            w.x = x.clone();
            w.y = y.clone();
            w.owner = owner.clone();
            w.missed = missed.clone();
            w.size = size.clone();
            w.kx = kx.clone();
            w.ky = ky.clone();
            w.breath = breath.clone();
            w.got = got.clone();
            w.seconds = seconds.clone();
            w.seed = seed;
            for (int b = 0; b < 4; b++) {
                for (int k = 0; k < 5; k++) {
                    w.records[b][k] = records[b][k].clone();
                }
            }
            return w;
        }

        boolean afloat(int a) {
            return owner[a] == -1;
        }

        private int at(int cx, int cy) {
            for (int a = 0; a < told.apples.size(); a++) {
                if (afloat(a) && x[a] == cx && y[a] == cy) {
                    return a;
                }
            }
            return -1;
        }

        private int far(int b, int a) {
            return Math.max(Math.abs(x[a] - kx[b]), Math.abs(y[a] - ky[b]));
        }

        private int[] away(int b, int a) {
            int dx = x[a] - kx[b];
            int dy = y[a] - ky[b];
            if (dx == 0 && dy == 0) {
                return null;
            }
            if (Math.abs(dx) >= Math.abs(dy)) {
                return new int[] {dx > 0 ? 1 : -1, 0};
            }
            return new int[] {0, dy > 0 ? 1 : -1};
        }

        boolean can(int b, int a, int kind) {
            if (!afloat(a) || far(b, a) > told.bobbers.get(b).reach) {
                return false;
            }
            if (kind == 1) {
                return told.apples.get(a).stalk;
            }
            if (kind == 2) {
                return breath[b] >= 1 && told.rim(x[a], y[a]);
            }
            if (kind == 3) {
                return breath[b] >= 3;
            }
            if (kind == 4) {
                int[] way = away(b, a);
                return way != null && at(x[a] + way[0], y[a] + way[1]) >= 0;
            }
            return true;
        }

        private java.util.Map<String, Integer> seen(int b, int a) {
            java.util.Map<String, Integer> s = new java.util.HashMap<>();
            s.put("size", size[a]);
            s.put("soft", told.apples.get(a).soft);
            s.put("stalk", told.apples.get(a).stalk ? 1 : 0);
            s.put("wall", told.rim(x[a], y[a]) ? 1 : 0);
            s.put("far", far(b, a));
            s.put("tries", missed[a]);
            s.put("mouth", told.bobbers.get(b).mouth);
            s.put("breath", breath[b]);
            s.put("kind", 0);
            s.put("odds", 0);
            return s;
        }

        int odds(int b, int a, int kind) {
            int value = told.odds[kind] == null ? 50 : told.odds[kind].value(seen(b, a));
            return value < 0 ? 0 : value > 100 ? 100 : value;
        }

        int worth(int b, int a, int kind, int rule) {
            java.util.Map<String, Integer> s = seen(b, a);
            s.put("kind", kind);
            s.put("odds", odds(b, a, kind));
            return told.rules.get(rule).value(s);
        }

        int choice(int b, int rule) {
            int best = -1;
            int most = 0;
            for (int code = 0; code < 10 * told.apples.size(); code++) {
                if (code % 10 < 5 && can(b, code / 10, code % 10)) {
                    int worth = rule < 0 ? 0 : worth(b, code / 10, code % 10, rule);
                    if (best < 0 || worth > most) {
                        best = code;
                        most = worth;
                    }
                }
            }
            return best;
        }

        void breathe(int b) {
            breath[b] = told.bobbers.get(b).breath;
            seconds[b] += 2;
        }

        boolean earnest(int b, int a, int kind) {
            int odds = odds(b, a, kind);
            seed = (137 * seed + 71) % 1000;
            boolean gets = seed / 10 < odds;
            records[b][kind][0]++;
            records[b][kind][2] += odds;
            seconds[b] += new int[] {1, 1, 2, 3, 1}[kind];
            if (gets) {
                records[b][kind][1]++;
                take(b, a, kind);
            } else {
                miss(b, a, kind);
            }
            return gets;
        }

        void take(int b, int a, int kind) {
            breath[b] -= new int[] {0, 0, 1, 3, 0}[kind];
            owner[a] = b;
            got[b]++;
        }

        void miss(int b, int a, int kind) {
            breath[b] -= new int[] {0, 0, 1, 3, 0}[kind];
            missed[a]++;
            if (kind == 0 && !(told.apples.get(a).soft < told.bite)) {
                size[a] -= told.bobbers.get(b).mouth + 1;
                if (size[a] <= 0) {
                    size[a] = 0;
                    owner[a] = 9;
                }
            }
            int[] way = away(b, a);
            if (kind < 2 && afloat(a) && way != null) {
                push(a, way);
            }
        }

        private boolean push(int a, int[] way) {
            int nx = x[a] + way[0];
            int ny = y[a] + way[1];
            if (nx < 0 || ny < 0 || nx >= told.across || ny >= told.up) {
                return false;
            }
            int there = at(nx, ny);
            if (there >= 0 && !push(there, way)) {
                return false;
            }
            x[a] = nx;
            y[a] = ny;
            return true;
        }

        int wave(int side) {
            int[] dx = {-1, 1, 0, 0};
            int[] dy = {0, 0, 1, -1};
            List<Integer> order = new ArrayList<>();
            for (int a = 0; a < told.apples.size(); a++) {
                if (afloat(a)) {
                    order.add(a);
                }
            }
            int[] sx = x.clone();
            int[] sy = y.clone();
            order.sort((p, q) -> {
                int np = -(sx[p] * dx[side] + sy[p] * dy[side]);
                int nq = -(sx[q] * dx[side] + sy[q] * dy[side]);
                return np != nq ? np - nq : sx[p] != sx[q] ? sx[p] - sx[q] : sy[p] - sy[q];
            });
            int moved = 0;
            for (int a : order) {
                int nx = x[a] + dx[side];
                int ny = y[a] + dy[side];
                if (nx >= 0 && ny >= 0 && nx < told.across && ny < told.up && at(nx, ny) < 0) {
                    x[a] = nx;
                    y[a] = ny;
                    moved++;
                }
            }
            return moved;
        }

        boolean turn(int b, int rule) {
            int code = choice(b, rule);
            if (code < 0) {
                breathe(b);
                return false;
            }
            return earnest(b, code / 10, code % 10);
        }

        /** The value and what is first: 10 times the apple and the kind, -5 for breathing, -9 for nothing. */
        long[] best(int b, int n, int[] looks) {
            looks[0]++;
            long[] best = {0, -9};
            if (looks[0] > 20000 || n == 0) {
                return best;
            }
            for (int code = 0; code < 10 * told.apples.size(); code++) {
                int takes = code % 10 == 2 ? 2 : code % 10 == 3 ? 3 : 1;
                if (code % 10 < 5 && takes <= n && can(b, code / 10, code % 10)) {
                    World w = copy();
                    w.take(b, code / 10, code % 10);
                    World v = copy();
                    v.miss(b, code / 10, code % 10);
                    long o = odds(b, code / 10, code % 10);
                    long value =
                        (o * (1000000 + w.best(b, n - takes, looks)[0]) + (100 - o) * v.best(b, n - takes, looks)[0]) / 100;
                    if (value > best[0]) {
                        best = new long[] {value, code};
                    }
                }
            }
            if (n >= 2 && breath[b] != told.bobbers.get(b).breath) {
                World w = copy();
                w.breathe(b);
                long value = w.best(b, n - 2, looks)[0];
                if (value > best[0]) {
                    best = new long[] {value, -5};
                }
            }
            return best;
        }
    }
}
