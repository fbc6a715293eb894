import java.nio.charset.StandardCharsets;
import java.util.Arrays;

/**
 * One method for each promise of the document, with answers reckoned by hand from its words. Draws from seed 0 on
 * are 7, 79, 39, 46, 9, 53, 77, 52, 31, 67 (tenths of 71, 798, 397, 460, 91, 538, 777, 520, 311, 678).
 */
public final class PromiseTests {
    private static int wrong = 0;
    private static String where = "";

    private static void due(String call, long got, long want) {
        if (got != want) {
            wrong++;
            System.out.println(where + ": " + call + " answered " + got + ", due is " + want);
        }
    }

    private static void due(String call, boolean got, boolean want) {
        due(call, got ? 1 : 0, want ? 1 : 0);
    }

    private static void put(TubBites t, String text) {
        byte[] bytes = text.getBytes(StandardCharsets.ISO_8859_1);
        byte[] padded = Arrays.copyOf(bytes, (bytes.length + 19) / 20 * 20);
        for (int i = 0; i < padded.length; i += 20) {
            int[] n = new int[5];
            for (int j = 0; j < 20; j++) {
                n[j / 4] = n[j / 4] << 8 | padded[i + j] & 255;
            }
            t.feed(n[0], n[1], n[2], n[3], n[4]);
        }
        t.end(bytes.length);
    }

    private static TubBites of(String text) {
        TubBites t = new TubBites();
        put(t, text);
        if (t.tub() < 0) {
            wrong++;
            System.out.println(where + ": fault " + t.fault(0) + " at " + t.fault(1) + " of " + text);
        }
        return t;
    }

    /** The fault must lie at the first byte of the mark's last place in the text, or at its end for "". */
    private static void faulty(String text, int fault, String mark) {
        TubBites t = new TubBites();
        put(t, text);
        due("tub() of " + text, t.tub(), -1);
        due("fault(0) of " + text, t.fault(0), fault);
        due("fault(1) of " + text, t.fault(1), mark.isEmpty() ? text.length() : text.lastIndexOf(mark));
        due("about(11)", t.about(11), 0);
    }

    private static String many(String part, int times, String joint) {
        StringBuilder s = new StringBuilder();
        for (int i = 0; i < times; i++) {
            s.append(i == 0 ? "" : joint).append(part);
        }
        return s.toString();
    }

    private static String numbered(String part, int times) {
        StringBuilder s = new StringBuilder();
        for (int i = 0; i < times; i++) {
            s.append(part.replace("#", "" + (char) ('a' + i)).replace("@", i % 6 + " " + i / 6));
        }
        return s.toString();
    }

    public static void main(String[] args) {
        newObject();
        feedAndEnd();
        tub();
        grammarFaults();
        countFaults();
        nameAndNumberFaults();
        formulas();
        appleAndBobber();
        oddsAndKinds();
        chooses();
        goes();
        pushes();
        bites();
        breathesAndWaves();
        parties();
        undoAndRedo();
        best();
        bestSpent();
        matches();
        restingPairs();
        records();
        easier();
        seats();
        orders();
        drives();
        goneAndProvide();
        wavesAsked();
        fills();
        coins();
        lies();
        picks();
        fitsAndNearest();
        chances();
        images();
        about();
        System.out.println(wrong == 0 ? "all answers are as promised" : wrong + " answers are not as promised");
        if (wrong != 0) {
            System.exit(1);
        }
    }

    private static void newObject() {
        where = "1";
        TubBites t = new TubBites();
        for (int what = 0; what <= 13; what++) {
            due("about(" + what + ")", t.about(what), 0);
        }
        due("fault(0)", t.fault(0), 0);
        due("fault(1)", t.fault(1), -1);
        due("apple(0, 0)", t.apple(0, 0), -2);
        due("bobber(0, 0)", t.bobber(0, 0), -1);
        due("chooses(0)", t.chooses(0), -2);
        due("wave(0)", t.wave(0), 0);
        due("party(20)", t.party(20), 0);
        due("about(7)", t.about(7), 2);
        due("gone(0)", t.gone(0), 0);
        due("gone(1)", t.gone(1), -2);
        due("provide(1, 0)", t.provide(1, 0), -1);
        due("order(1)", t.order(1), 0);
        due("lies(0)", t.lies(0), -1);
        due("nearest(0, 0)", t.nearest(0, 0), -1);
        due("match(0, 0)", t.match(0, 0), -1000000);
        due("fill(0, 1, 0)", t.fill(0, 1, 0), -1);
        due("coin(0, 0)", t.coin(0, 0), -1);
        due("image(0)", t.image(0), 0);
        due("back(0)", t.back(0), 0);
        due("NONE", TubBites.NONE, -1);
        due("GAP", TubBites.GAP, -1000000);
    }

    private static void feedAndEnd() {
        where = "2, 3";
        TubBites t = new TubBites();
        due("end(0)", t.end(0), 0);
        due("end(1)", t.end(1), -1);
        due("end(-1)", t.end(-1), -1);
        for (int i = 1; i <= 80; i++) {
            due("feed", t.feed(i, -1, 0, 7, 9), 20 * i);
        }
        due("feed beyond", t.feed(1, 2, 3, 4, 5), -1);
        due("about(11)", t.about(11), 1600);
        due("end(1601)", t.end(1601), -1);
        due("about(11)", t.about(11), 1600);
        due("end(1581)", t.end(1581), 1581);
        due("feed beyond", t.feed(1, 2, 3, 4, 5), -1);
        due("end(1580)", t.end(1580), 1580);
        due("feed to the brim", t.feed(1, 2, 3, 4, 5), 1600);
        due("end(1600)", t.end(1600), 1600);
        due("end(0)", t.end(0), 0);
        // "tub 3 by 2;" and blanks, the highest byte of each number first
        due("feed a text", t.feed(0x74756220, 0x33206279, 0x20323b20, 0x20202020, 0x20202020), 20);
        due("tub()", t.tub(), 0);
        due("about(0)", t.about(0), 3);
        due("about(1)", t.about(1), 2);
    }

    private static final String PAIR = "tub 3 by 1;rule a odds;apple a at 1 0 size 5 soft 0;"
        + "bobber a at 0 0 reach 2 breath 2 mouth 0;bobber b at 2 0 reach 2 breath 0 mouth 0;";

    private static void tub() {
        where = "4";
        TubBites t = of(PAIR + "draw 17;");
        due("about(6)", t.about(6), 17);
        due("wave(0)", t.wave(0), 1);
        due("pick(0, 1, 0)", t.pick(0, 1, 0), 0);
        due("later(5)", t.later(5), 5);
        due("rests()", t.rests(), 1);
        for (int box = 0; box < 3; box++) {
            due("image", t.image(box), 1);
        }
        put(t, "tub 2 by 2;apple a at 0 0 size 0");
        due("tub() with a fault", t.tub(), -1);
        due("fault(0)", t.fault(0), 4);
        due("about(11)", t.about(11), 0);
        due("about(0) stays", t.about(0), 3);
        due("about(7) stays", t.about(7), 1);
        due("about(9) stays", t.about(9), 1);
        due("about(12) stays", t.about(12), 1);
        due("about(13) stays", t.about(13), 1);
        due("apple(0, 0) stays", t.apple(0, 0), 0);
        due("odds stay", t.odds(0, 0, 0), 50);
        due("back(1) stays", t.back(1), 1);
        t.wave(0);
        put(t, "tub 2 by 2;draw 4;apple a at 0 1 size 3 soft 2;apple b at 0 0 size 4 soft 2;");
        due("tub()", t.tub(), 2);
        due("fault(0)", t.fault(0), 0);
        due("fault(1)", t.fault(1), -1);
        int[] all = {2, 2, 2, 2, 0, 0, 4, 0, 0, 0, 5, 0, 0, 0};
        for (int what = 0; what < all.length; what++) {
            due("about(" + what + ")", t.about(what), all[what]);
        }
        for (int box = 0; box < 3; box++) {
            due("a box is empty", t.back(box), -1);
        }
        due("picks are none", t.untell(0), false);
        due("lies(0)", t.lies(0), -1);
        due("undo()", t.undo(), false);
        due("apple(0, 4)", t.apple(0, 4), 3);
        due("tub() of nothing", t.tub(), 0);
        due("about(0)", t.about(0), 0);
        due("about(2)", t.about(2), 0);
        put(t, " \n ");
        due("tub() of blanks", t.tub(), 0);
        due("fault(2)", t.fault(2), -1);
        due("fault(-1)", t.fault(-1), -1);
    }

    private static void grammarFaults() {
        where = "5 (tokens, grammar)";
        faulty("$", 1, "$");
        faulty("tub\t2 by 2;", 1, "\t");
        faulty("tub 2 by 2;\r", 1, "\r");
        faulty("Tub 2 by 2;", 1, "T");
        faulty("tub 2 by 2;" + (char) 200, 1, "" + (char) 200);
        faulty("abcdefghi", 1, "a");
        faulty("abcdefgh", 2, "a");
        faulty("tub 12345 by 2;", 1, "12345");
        faulty("tub 1234 by 2;", 4, "1234");
        faulty("tub 2by 2;", 1, "2by");
        faulty("tub 2 by 2;rule a 1and 1;", 1, "1and");
        faulty("tub 2z", 1, "2z");
        faulty("zzzzzzzzz", 1, "z".repeat(9));
        faulty("tub 2 by 2;rule a 1 & 1;", 1, "&");
        faulty("tub 2 by 2", 2, "");
        faulty("tub 2 by 2  \n", 2, "");
        faulty("tub 2", 2, "");
        faulty("tub by", 2, "by");
        faulty("2", 2, "2");
        faulty(";", 2, ";");
        faulty("tub 2 by 2;;", 2, ";");
        faulty("size", 2, "size");
        faulty("rule a 1;", 2, "rule");
        faulty("odds free 1;", 2, "odds");
        faulty("tub 2 by 2;tub 2 by 2;", 2, "tub");
        faulty("tub 2 by 2;odds odds 1;", 2, "odds 1");
        faulty("tub 2 by 2;odds;", 2, ";");
        faulty("tub 2 by 2;odds rule 1;", 2, "rule");
        faulty("tub 2 by 2;rule a (1+;", 2, ";");
        faulty("tub 2 by 2;rule a (1 or);", 2, ")");
        faulty("tub 2 by 2;rule a;", 2, ";");
        faulty("tub 2 by 2;rule a 1+;", 2, ";");
        faulty("tub 2 by 2;rule a 1 2;", 2, "2;");
        faulty("tub 2 by 2;rule a (1;", 2, ";");
        faulty("tub 2 by 2;rule a 1);", 2, ")");
        faulty("tub 2 by 2;rule a 1<2=3;", 2, "=");
        faulty("tub 2 by 2;rule a 1+not 2;", 2, "not");
        faulty("tub 2 by 2;rule a 1<not 2;", 2, "not");
        faulty("tub 2 by 2;rule a -1;", 2, "-");
        faulty("tub 2 by 2;rule a and;", 2, "and");
        faulty("tub 2 by 2;rule a far or", 2, "");
        faulty("tub 2 by 2;apple a at 0 0 size 1 soft 1 coin 2 stalk;", 2, "stalk");
        faulty("tub 2 by 2;apple a at 0 0 soft 1 size 1;", 2, "soft");
        faulty("tub 2 by 2;apple a at 0 0 size 1 soft 1 coin;", 2, ";");
        faulty("tub 2 by 2;bobber a at 0 0 reach 1 breath 1 mouth 1 by;", 2, ";");
        faulty("tub 2 by 2;bobber a at 0 0 reach 1 breath 1 mouth 1 a;", 2, "a;");
        // the first by its place, whatever comes behind
        faulty("tub 2 by 2;rule a 1<2<3;$", 2, "<3");
        faulty("tub 9 by 2;tub $", 4, "9");
        due("words and numbers without blanks", of("tub 2 by 2;rule a not1+far*2;apple\nb at0 0 size1 soft0;").about(2), 1);
        due("draw 0, coin 0", of("tub 1 by 1;draw 0;bite 0;apple a at 0 0 size 1 soft 0 coin 0;").about(6), 0);
        TubBites cut = new TubBites();
        put(cut, "abcdefghi");
        cut.end(8);
        due("what was cut off is not read", cut.tub(), -1);
        due("what was cut off is not read", cut.fault(0), 2);
        put(cut, "tub 1 by 1;draw 12;");
        cut.end(17);
        due("what was cut off is not read", cut.tub(), -1);
        due("what was cut off is not read", cut.fault(1), 17);
        put(cut, "tub 1 by 2x");
        cut.end(10);
        due("a letter that was cut off", cut.tub(), -1);
        due("a letter that was cut off", cut.fault(0), 2);
        due("a letter that was cut off", cut.fault(1), 10);
        put(cut, "tub 1 by 1;     ;");
        cut.end(16);
        due("what was cut off is not read", cut.tub(), 0);
        due("leading noughts", of("tub 0002 by 06;").about(1), 6);
    }

    private static void countFaults() {
        where = "5 (counts)";
        String tub = "tub 6 by 6;";
        faulty(tub + numbered("rule r# 1;", 7), 2, "rule");
        faulty(tub + numbered("apple a# at @ size 1 soft 1;", 11), 2, "apple");
        faulty(tub + numbered("bobber b# at @ reach 1 breath 1 mouth 1;", 5), 2, "bobber");
        due("all there can be", of(tub + numbered("rule r# 1;", 6) + numbered("apple a# at @ size 1 soft 1;", 10)
            + numbered("bobber b# at @ reach 1 breath 1 mouth 1;", 4)).about(4), 4);
        faulty(tub + "draw 1;draw 1;", 2, "draw");
        faulty(tub + "bite 1;bite 1;", 2, "bite");
        for (String kind : new String[] {"free", "stalk", "wall", "ground", "lean"}) {
            faulty(tub + "odds " + kind + " 1;rule a 1;odds " + kind + " 1;", 2, kind);
        }
        due("30 units", of(tub + "rule a " + many("1", 30, "+") + ";").about(12), 30);
        faulty(tub + "rule a " + many("1", 30, "+") + "+2;", 2, "2;");
        faulty(tub + "rule a " + many("1", 30, "+") + "+(2);", 2, "(");
        due("( e ) is a unit", of(tub + "rule a " + many("(1)", 15, "+") + ";").about(12), 30);
        faulty(tub + "rule a " + many("(1)", 15, "+") + "+2;", 2, "2;");
        faulty(tub + "rule a " + many("(1)", 14, "+") + "+1+(2);", 2, "2");
        String full = tub + numbered("rule r# " + many("1", 30, "+") + ";", 3);
        due("90 units", of(full).about(12), 90);
        faulty(full + "odds free 2;", 2, "2");
        faulty(full + "odds free ;", 2, ";");
        String rule = tub + "rule a ";
        due("7 deep", of(rule + "(((((((1)))))));").about(12), 8);
        faulty(rule + "((((((([1", 1, "[");
        faulty(rule + "(((((((" + "(1))))))));", 2, "(1");
        due("7 nots", of(rule + many("not ", 7, "") + "1;").about(5), 1);
        faulty(rule + many("not ", 8, "") + "1;", 2, "not");
        faulty(rule + "not(not(not(not(1))));", 2, "(1");
        due("7 mixed", of(rule + "not(not(not(not 1)));").about(5), 1);
        faulty(rule + "(((((((not 1)))))));", 2, "not");
        due("nots side by side", of(rule + many(many("not ", 7, "") + "1", 9, " and ") + ";").about(5), 1);
        due("side by side is not within", of(rule + many("(1)", 9, "*") + ";").about(12), 18);
    }

    private static void nameAndNumberFaults() {
        where = "5 (names, numbers)";
        String tub = "tub 3 by 2;rule r 1;";
        faulty(tub + "rule r 2;", 3, "r 2");
        faulty(tub + "apple a at 0 0 size 1 soft 1;apple a at 1 1 size 1 soft 1;", 3, "a at");
        faulty(tub + many("bobber b at 0 0 reach 1 breath 1 mouth 1;", 2, ""), 3, "b at");
        due("names by sort", of(tub + "apple r at 0 0 size 1 soft 1;bobber r at 0 0 reach 1 breath 1 mouth 1;").about(2), 1);
        for (String word : ("tub by odds free stalk wall ground lean rule apple at size soft coin bobber reach breath "
            + "mouth draw bite or and not far tries kind").split(" ")) {
            faulty("tub 3 by 2;rule " + word + " 1;", 2, word + " 1");
        }
        due("other words", of("tub 1 by 1;rule e 1;rule both 1;rule one 1;rule unit 1;rule name 1;rule abcdefgh 1;").about(5), 6);
        faulty(tub + "apple a at 2 1 size 1 soft 1;apple b at 2 1 size 1 soft 1;", 3, "1 size");
        due("bobbers share a cell", of(tub + numbered("bobber b# at 2 1 reach 1 breath 1 mouth 1;", 2)).about(4), 2);
        faulty("tub 7 by 1;", 4, "7");
        faulty("tub 1 by 0;", 4, "0");
        faulty(tub + "apple a at 3 0 size 1 soft 1;", 4, "3 0");
        faulty(tub + "apple a at 0 2 size 1 soft 1;", 4, "2 size");
        faulty(tub + "apple a at 0 0 size 0 soft 1;", 4, "0 soft");
        faulty(tub + "apple a at 0 0 size 100 soft 1;", 4, "100");
        faulty(tub + "apple a at 0 0 size 99 soft 10;", 4, "10");
        faulty(tub + "apple a at 0 0 size 99 soft 9 stalk coin 100;", 4, "100");
        faulty(tub + "bobber a at 3 0 reach 1;", 4, "3 0");
        faulty(tub + "bobber a at 0 2 reach 1;", 4, "2 reach");
        faulty(tub + "bobber a at 0 0 reach 6;", 4, "6");
        faulty(tub + "bobber a at 0 0 reach 5 breath 21;", 4, "21");
        faulty(tub + "bobber a at 0 0 reach 5 breath 20 mouth 10;", 4, "10");
        faulty(tub + "draw 1000;", 4, "1000");
        faulty(tub + "bite 10;", 4, "10");
        due("greatest", of("tub 6 by 6;draw 999;bite 9;apple a at 5 5 size 99 soft 9 coin 99;"
            + "bobber a at 5 5 reach 5 breath 20 mouth 9;").about(6), 999);
        due("9999 in an e", of("tub 1 by 1;rule a 9999;").about(12), 1);
        String bobber = "bobber a at 0 0 reach 5 breath 20 mouth 9 by ";
        faulty(tub + bobber + "s;", 5, "s;");
        faulty(tub + bobber + "s;rule s 1;", 5, "s;r");
        faulty(tub + bobber + "size;", 2, "size");
    }

    private static void formula(String e, int odds) {
        TubBites t = of("tub 1 by 1;odds free " + e + ";apple a at 0 0 size 50 soft 3 stalk;"
            + "bobber a at 0 0 reach 0 breath 7 mouth 4;");
        due("odds by " + e, t.odds(0, 0, 0), odds);
    }

    private static void formulas() {
        where = "8 (formulas)";
        formula("1+2*3", 7);
        formula("(1+2)*3", 9);
        formula("10-3-2", 5);
        formula("20/3*2", 12);
        formula("23%9%3", 2);
        formula("5/0+3", 3);
        formula("5%0+3", 3);
        formula("5-(0-7)/2", 8);
        formula("(0-7)%4+10", 7);
        formula("0-7", 0);
        formula("101", 100);
        formula("100", 100);
        formula("10*(2<3)+(3<2)+(2<2)", 10);
        formula("10*(3>2)+(2>3)+(2>2)", 10);
        formula("10*(2=2)+(2=3)", 10);
        formula("2<3+1", 1);
        formula("not 0", 1);
        formula("not 5", 0);
        formula("not not 5", 1);
        formula("not 1<0", 1);
        formula("not 0 and 0", 0);
        formula("2 and 3", 1);
        formula("2 and 0", 0);
        formula("0 and 2", 0);
        formula("1 and 1", 1);
        formula("0 or 0", 0);
        formula("1 or 1", 1);
        formula("0 or 7", 1);
        formula("1 or 1 and 0", 1);
        formula("0 and 1 or 1", 1);
        formula("(0-5) or 0", 1);
        formula("9999*9999*22", 0);
        formula("0-9999*9999*22", 100);
        formula("size", 50);
        formula("soft", 3);
        formula("10*stalk", 10);
        formula("10*wall", 10);
        formula("far+tries+9", 9);
        formula("mouth", 4);
        formula("breath", 7);
        formula("kind+odds+5", 5);
    }

    private static void appleAndBobber() {
        where = "6, 7";
        TubBites t = of("tub 3 by 3;odds free 60;apple a at 2 1 size 7 soft 0;apple b at 0 2 size 9 soft 0;"
            + "bobber a at 1 1 reach 1 breath 4 mouth 0;bobber b at 1 1 reach 1 breath 9 mouth 0;");
        int[] first = {2, 1, -1, 0, 7};
        for (int what = 0; what < 5; what++) {
            due("apple(0, " + what + ")", t.apple(0, what), first[what]);
        }
        due("apple(0, 5)", t.apple(0, 5), -2);
        due("apple(0, -1)", t.apple(0, -1), -2);
        due("apple(2, 0)", t.apple(2, 0), -2);
        due("apple(-1, 0)", t.apple(-1, 0), -2);
        due("bobber(1, 0)", t.bobber(1, 0), 9);
        due("bobber(1, 1)", t.bobber(1, 1), 0);
        due("bobber(1, 2)", t.bobber(1, 2), 0);
        due("bobber(1, 3)", t.bobber(1, 3), -1);
        due("bobber(1, -1)", t.bobber(1, -1), -1);
        due("bobber(2, 0)", t.bobber(2, 0), -1);
        due("bobber(-1, 0)", t.bobber(-1, 0), -1);
        due("go(1, 0, 0)", t.go(1, 0, 0), 1);
        due("apple(0, 2)", t.apple(0, 2), 1);
        due("apple(0, 0) where it was", t.apple(0, 0), 2);
        due("wave(0)", t.wave(0), 0);
        due("wave(3)", t.wave(3), 1);
        due("apple(0, 1) where it was", t.apple(0, 1), 1);
        due("bobber(1, 1)", t.bobber(1, 1), 1);
        due("go(0, 1, 0)", t.go(0, 1, 0), 0);
        due("apple(1, 3)", t.apple(1, 3), 1);
    }

    private static void oddsAndKinds() {
        where = "8";
        TubBites t = of("tub 5 by 5;odds free 1;odds stalk 2;odds wall 3;odds ground 4;odds lean 5+far;"
            + "apple a at 2 3 size 1 soft 0 stalk;apple b at 2 4 size 1 soft 0;apple c at 4 2 size 1 soft 0;"
            + "apple d at 2 2 size 1 soft 0;bobber a at 2 2 reach 2 breath 3 mouth 0;"
            + "bobber b at 2 2 reach 1 breath 2 mouth 0;bobber c at 2 2 reach 2 breath 0 mouth 0;");
        int[][] due = {
            {0, 0, 1, 2, -1, 4, 6}, {0, 1, 1, -1, 3, 4, -1}, {0, 2, 1, -1, 3, 4, -1}, {0, 3, 1, -1, -1, 4, -1},
            {1, 0, 1, 2, -1, -1, 6}, {1, 1, -1, -1, -1, -1, -1}, {2, 1, 1, -1, -1, -1, -1}};
        for (int[] row : due) {
            for (int kind = 0; kind < 5; kind++) {
                due("odds(" + row[0] + ", " + row[1] + ", " + kind + ")", t.odds(row[0], row[1], kind), row[2 + kind]);
            }
        }
        due("odds(0, 0, 5)", t.odds(0, 0, 5), -1);
        due("odds(0, 0, -1)", t.odds(0, 0, -1), -1);
        due("odds(0, 4, 0)", t.odds(0, 4, 0), -1);
        due("odds(0, -1, 0)", t.odds(0, -1, 0), -1);
        due("odds(3, 0, 0)", t.odds(3, 0, 0), -1);
        due("odds(-1, 0, 0)", t.odds(-1, 0, 0), -1);
        due("not at the rim", of("tub 3 by 3;odds free 50*wall;apple a at 1 1 size 1 soft 0;"
            + "bobber a at 0 0 reach 1 breath 0 mouth 0;").odds(0, 0, 0), 0);
        due("without a stalk", of("tub 3 by 3;odds free 50*stalk;apple a at 1 1 size 1 soft 0;"
            + "bobber a at 0 0 reach 1 breath 0 mouth 0;").odds(0, 0, 0), 0);
        due("untold odds", of(PAIR).odds(0, 0, 2), 50);
        // across counts if it is as far across as up: what is pushed from (1, 1) goes to (2, 1), not to (1, 2)
        TubBites corner = of("tub 3 by 3;apple a at 1 1 size 1 soft 0;apple b at 1 2 size 1 soft 0;"
            + "bobber a at 0 0 reach 2 breath 0 mouth 0;");
        due("lean on the one above", corner.odds(0, 0, 4), -1);
        TubBites side = of("tub 3 by 3;apple a at 1 1 size 1 soft 0;apple b at 2 1 size 1 soft 0;"
            + "bobber a at 0 0 reach 2 breath 0 mouth 0;");
        due("lean on the one beside", side.odds(0, 0, 4), 50);
    }

    private static void chooses() {
        where = "9";
        TubBites t = of("tub 3 by 1;odds free 10*far;odds wall 70;rule near 0-far;rule sure odds;rule last kind;"
            + "rule low 0-odds;apple a at 1 0 size 5 soft 0 stalk;apple b at 2 0 size 5 soft 0;"
            + "bobber a at 0 0 reach 2 breath 3 mouth 0;bobber b at 0 0 reach 2 breath 3 mouth 0 by sure;"
            + "bobber c at 0 0 reach 2 breath 3 mouth 0 by last;bobber d at 0 0 reach 0 breath 3 mouth 0 by low;");
        due("by the first rule, the first of like ones", t.chooses(0), 0);
        due("by odds", t.chooses(1), 2);
        due("by kind", t.chooses(2), 4);
        due("none in reach", t.chooses(3), -1);
        due("no such", t.chooses(4), -2);
        due("no such", t.chooses(-1), -2);
        TubBites low = of("tub 3 by 1;odds free 10*far;rule low 0-odds;apple a at 2 0 size 5 soft 0;"
            + "apple b at 1 0 size 5 soft 0;bobber a at 0 0 reach 2 breath 0 mouth 0;");
        due("the greatest may be below 0", low.chooses(0), 10);
        TubBites bare = of("tub 3 by 1;apple a at 2 0 size 5 soft 0;apple b at 1 0 size 5 soft 0;"
            + "bobber a at 0 0 reach 1 breath 3 mouth 0;");
        due("without rules the first", bare.chooses(0), 10);
        due("a rule told behind its bobber", of("tub 3 by 1;bobber a at 0 0 reach 2 breath 0 mouth 0;rule b far;"
            + "apple a at 0 0 size 1 soft 0;apple b at 1 0 size 1 soft 0;").chooses(0), 10);
    }

    private static void goes() {
        where = "10";
        TubBites t = of("tub 5 by 1;odds free 8;odds stalk 80;odds wall 39;odds ground 47;odds lean 9;"
            + numbered("apple a# at @ size 9 soft 0 stalk;", 5) + "bobber a at 0 0 reach 5 breath 5 mouth 0;");
        due("draw 7 below 8", t.go(0, 4, 0), 1);
        due("seed", t.about(6), 71);
        due("draw 79 below 80", t.go(0, 3, 1), 1);
        due("seed", t.about(6), 798);
        due("seconds", t.bobber(0, 2), 2);
        due("breath", t.bobber(0, 0), 5);
        due("draw 39 not below 39", t.go(0, 2, 2), 0);
        due("seconds", t.bobber(0, 2), 4);
        due("breath", t.bobber(0, 0), 4);
        due("a wall try does not push", t.apple(2, 0), 2);
        due("missed", t.apple(2, 3), 1);
        due("draw 46 below 47", t.go(0, 2, 3), 1);
        due("seconds", t.bobber(0, 2), 7);
        due("breath", t.bobber(0, 0), 1);
        due("too little breath", t.go(0, 1, 3), -1);
        due("nothing to lean on", t.go(0, 1, 4), -1);
        due("nothing done", t.about(6), 460);
        due("where he is there is no lean", t.go(0, 0, 4), -1);
        due("got", t.bobber(0, 1), 3);
        due("gone already", t.go(0, 2, 0), -1);
        due("no such kind", t.go(0, 1, 5), -1);
        due("no such kind", t.go(0, 1, -1), -1);
        due("no such apple", t.go(0, 5, 0), -1);
        due("no such bobber", t.go(1, 1, 0), -1);
        due("acts", t.about(7), 4);
        TubBites lean = of("tub 3 by 1;odds lean 7;apple a at 1 0 size 9 soft 0;apple b at 2 0 size 9 soft 0;"
            + "bobber a at 0 0 reach 5 breath 5 mouth 0;");
        due("draw 7 not below 7", lean.go(0, 0, 4), 0);
        due("a second", lean.bobber(0, 2), 1);
        due("no breath", lean.bobber(0, 0), 5);
        due("record of leaning", lean.record(0, 4, 0), 1);
    }

    private static void pushed(String apples, int bx, int by, int kind, int x, int y) {
        TubBites t = of("tub 4 by 4;odds free 0;odds stalk 0;odds lean 0;" + apples
            + "bobber a at " + bx + " " + by + " reach 5 breath 5 mouth 0;");
        due("go at " + apples, t.go(0, 0, kind), 0);
        due("x of " + apples, t.apple(0, 0), x);
        due("y of " + apples, t.apple(0, 1), y);
    }

    private static void pushes() {
        where = "10 (pushes)";
        String one = "apple a at 1 2 size 9 soft 9 stalk;";
        pushed(one, 0, 2, 0, 2, 2);
        pushed(one, 3, 2, 1, 0, 2);
        pushed(one, 1, 0, 0, 1, 3);
        pushed(one, 1, 3, 0, 1, 1);
        pushed(one, 0, 1, 0, 2, 2);
        pushed(one, 2, 3, 0, 0, 2);
        pushed(one, 0, 0, 0, 1, 3);
        pushed(one, 1, 2, 0, 1, 2);
        pushed("apple a at 3 2 size 9 soft 9;", 0, 2, 0, 3, 2);
        pushed("apple a at 1 2 size 9 soft 9;apple b at 2 2 size 1 soft 0;", 0, 2, 4, 1, 2);
        TubBites down = of("tub 3 by 5;odds free 0;apple a at 1 3 size 9 soft 0;apple b at 1 2 size 9 soft 0;"
            + "apple c at 2 2 size 9 soft 0;bobber a at 2 4 reach 5 breath 5 mouth 0;");
        due("across, as far as up", down.go(0, 0, 0), 0);
        due("down", down.go(0, 1, 0), 0);
        at(down, 0, 3, 1, 1, 2, 2);
        TubBites column = of("tub 3 by 5;odds free 0;apple a at 1 3 size 9 soft 0;apple b at 1 2 size 9 soft 0;"
            + "bobber a at 1 4 reach 5 breath 5 mouth 0;");
        column.go(0, 0, 0);
        at(column, 1, 2, 1, 1);
        column.go(0, 0, 0);
        at(column, 1, 1, 1, 0);
        column.go(0, 0, 0);
        at(column, 1, 1, 1, 0);
        TubBites row = of("tub 5 by 1;odds free 0;apple a at 2 0 size 9 soft 0;apple b at 1 0 size 9 soft 0;"
            + "apple c at 3 0 size 9 soft 0;bobber a at 0 0 reach 5 breath 5 mouth 0;");
        due("go(0, 1, 0)", row.go(0, 1, 0), 0);
        int[] pushed = {3, 2, 4};
        for (int a = 0; a < 3; a++) {
            due("a row is pushed: " + a, row.apple(a, 0), pushed[a]);
            due("only one is missed: " + a, row.apple(a, 3), a == 1 ? 1 : 0);
        }
        due("go(0, 1, 0)", row.go(0, 1, 0), 0);
        for (int a = 0; a < 3; a++) {
            due("a row at the wall stays: " + a, row.apple(a, 0), pushed[a]);
        }
    }

    private static void bites() {
        where = "10 (pieces)";
        TubBites t = of("tub 5 by 1;odds free 0;odds stalk 0;bite 4;apple a at 1 0 size 8 soft 4 stalk;"
            + "apple b at 0 0 size 8 soft 3;bobber a at 0 0 reach 5 breath 5 mouth 2;");
        due("stalk", t.go(0, 0, 1), 0);
        due("no piece by the stalk", t.apple(0, 4), 8);
        due("free", t.go(0, 0, 0), 0);
        due("a piece of mouth and 1", t.apple(0, 4), 5);
        due("pushed twice", t.apple(0, 0), 3);
        due("free", t.go(0, 0, 0), 0);
        due("free", t.go(0, 0, 0), 0);
        due("eaten", t.apple(0, 2), 9);
        due("nothing left", t.apple(0, 4), 0);
        due("eaten where it was", t.apple(0, 0), 4);
        due("missed", t.apple(0, 3), 4);
        due("in the tub", t.about(3), 1);
        due("nobody got it", t.bobber(0, 1), 0);
        due("too hard", t.go(0, 1, 0), 0);
        due("too hard", t.apple(1, 4), 8);
        TubBites exact = of("tub 2 by 1;odds free 0;bite 0;apple a at 0 0 size 3 soft 0;bobber a at 0 0 reach 0 breath 0 mouth 2;");
        exact.go(0, 0, 0);
        due("just eaten", exact.apple(0, 2), 9);
        TubBites hard = of("tub 2 by 1;odds free 0;apple a at 0 0 size 3 soft 9;bobber a at 0 0 reach 0 breath 0 mouth 2;");
        hard.go(0, 0, 0);
        due("without bite no piece", hard.apple(0, 4), 3);
    }

    private static void breathesAndWaves() {
        where = "11, 12";
        TubBites t = of("tub 3 by 3;odds ground 0;apple a at 0 0 size 1 soft 0;apple b at 1 0 size 1 soft 0;"
            + "apple c at 2 2 size 1 soft 0;apple d at 1 1 size 1 soft 0;bobber a at 1 1 reach 1 breath 4 mouth 0;");
        t.go(0, 0, 3);
        due("bobber(0, 0)", t.bobber(0, 0), 1);
        due("breathe(0)", t.breathe(0), 4);
        due("bobber(0, 0)", t.bobber(0, 0), 4);
        due("bobber(0, 2)", t.bobber(0, 2), 5);
        due("breathe(0) again", t.breathe(0), 4);
        due("bobber(0, 2)", t.bobber(0, 2), 7);
        due("breathe(1)", t.breathe(1), -1);
        due("breathe(-1)", t.breathe(-1), -1);
        due("about(7)", t.about(7), 3);
        due("left", t.wave(0), 2);
        at(t, 0, 0, 1, 0, 1, 2, 0, 1);
        due("right: those at the right first", t.wave(1), 4);
        at(t, 1, 0, 2, 0, 2, 2, 1, 1);
        due("up: one goes into the cell that another left", t.wave(2), 3);
        at(t, 1, 1, 2, 1, 2, 2, 1, 2);
        due("down", t.wave(3), 4);
        at(t, 1, 0, 2, 0, 2, 1, 1, 1);
        due("wave(4)", t.wave(4), -1);
        due("wave(-1)", t.wave(-1), -1);
        due("about(7)", t.about(7), 7);
        due("none goes", of("tub 1 by 1;apple a at 0 0 size 1 soft 0;").wave(2), 0);
    }

    private static void at(TubBites t, int... cells) {
        for (int i = 0; i < cells.length; i += 2) {
            due("x of " + i / 2, t.apple(i / 2, 0), cells[i]);
            due("y of " + i / 2, t.apple(i / 2, 1), cells[i + 1]);
        }
    }

    private static void parties() {
        where = "13";
        // draws 7, 79, 39: the first gets one, the second misses, then gets; then none is left and they breathe
        TubBites t = of("tub 4 by 1;odds free 50;rule a odds;apple a at 1 0 size 9 soft 0;apple b at 2 0 size 9 soft 0;"
            + "bobber a at 0 0 reach 1 breath 2 mouth 0;bobber b at 3 0 reach 2 breath 2 mouth 0;");
        due("party(1)", t.party(1), 1);
        due("bobber(0, 1)", t.bobber(0, 1), 1);
        due("apple(1, 0) was pushed", t.apple(1, 0), 1);
        due("bobber(1, 2)", t.bobber(1, 2), 1);
        due("party(0)", t.party(0), 0);
        due("party(20)", t.party(20), 1);
        due("who has it", t.apple(1, 2), 0);
        due("bobber(0, 2)", t.bobber(0, 2), 2 + 19 * 2);
        due("bobber(1, 2)", t.bobber(1, 2), 1 + 20 * 2);
        due("seed", t.about(6), 397);
        due("acts", t.about(7), 3);
        due("party(21)", t.party(21), -1);
        due("party(-1)", t.party(-1), -1);
        due("acts", t.about(7), 3);
        TubBites empty = of("tub 1 by 1;odds wall 0;rule a kind=2;apple a at 0 0 size 1 soft 0;"
            + "bobber a at 0 0 reach 0 breath 2 mouth 0;");
        due("party(2)", empty.party(2), 0);
        due("breath is spent", empty.bobber(0, 0), 0);
        due("seconds", empty.bobber(0, 2), 4);
    }

    private static void undoAndRedo() {
        where = "14, 15";
        TubBites t = of("tub 6 by 1;odds free 50;bite 0;apple a at 1 0 size 9 soft 0;apple b at 0 0 size 3 soft 0;"
            + "bobber a at 0 0 reach 5 breath 3 mouth 0;");
        due("undo()", t.undo(), false);
        due("redo()", t.redo(), false);
        t.go(0, 1, 0);
        t.go(0, 0, 0);
        due("apple(0, 0)", t.apple(0, 0), 2);
        due("apple(0, 4)", t.apple(0, 4), 8);
        due("record", t.record(0, 0, 0), 2);
        due("undo()", t.undo(), true);
        due("apple(0, 0)", t.apple(0, 0), 1);
        due("apple(0, 3)", t.apple(0, 3), 0);
        due("apple(0, 4)", t.apple(0, 4), 9);
        due("seed", t.about(6), 71);
        due("record", t.record(0, 0, 0), 1);
        due("record", t.record(0, 0, 2), 50);
        due("seconds", t.bobber(0, 2), 1);
        due("undo()", t.undo(), true);
        due("apple(1, 2)", t.apple(1, 2), -1);
        due("bobber(0, 1)", t.bobber(0, 1), 0);
        due("about(7)", t.about(7), 0);
        due("about(8)", t.about(8), 2);
        due("redo()", t.redo(), true);
        due("apple(1, 2)", t.apple(1, 2), 0);
        due("about(8)", t.about(8), 1);
        due("wave(5) is no act", t.wave(5), -1);
        due("about(8)", t.about(8), 1);
        due("wave(1)", t.wave(1), 1);
        due("redo() behind another act", t.redo(), false);
        due("about(7)", t.about(7), 2);
        for (int i = 0; i < 60; i++) {
            t.breathe(0);
        }
        due("40 are kept", t.about(7), 40);
        int undone = 0;
        for (int i = 0; i < 60 && t.undo(); i++) {
            undone++;
        }
        due("undone", undone, 40);
        due("seconds", t.bobber(0, 2), 1 + 20 * 2);
        int redone = 0;
        for (int i = 0; i < 60 && t.redo(); i++) {
            redone++;
        }
        due("redone", redone, 40);
        due("seconds", t.bobber(0, 2), 1 + 60 * 2);
        TubBites party = of(PAIR);
        party.party(3);
        due("undo a party", party.undo(), true);
        due("apple(0, 2)", party.apple(0, 2), -1);
        due("seed", party.about(6), 0);
        due("redo a party", party.redo(), true);
        due("apple(0, 2)", party.apple(0, 2), 0);
    }

    private static void best() {
        where = "16";
        TubBites t = of("tub 3 by 1;odds free 33;odds ground 90;apple a at 0 0 size 1 soft 0;apple b at 2 0 size 1 soft 0;"
            + "bobber a at 0 0 reach 2 breath 3 mouth 0;bobber b at 0 0 reach 2 breath 0 mouth 0;");
        due("nothing in no time", t.best(0, 0, 0), 0);
        due("nothing first", t.best(0, 0, 1), -1);
        due("not breathing first", t.best(0, 0, 2), 0);
        due("one second", t.best(0, 1, 0), 330000);
        // by the wall 50 hundredths in two seconds, by two free ones .33 + .33
        due("two seconds", t.best(0, 2, 0), 660000);
        due("two seconds", t.best(0, 2, 1), 0);
        // three free ones, but there are two apples; by the ground it were 900000
        due("three seconds", t.best(0, 3, 0), 3 * 330000 - 35937);
        due("three seconds", t.best(1, 3, 0), 3 * 330000 - 35937);
        due("no such bobber", t.best(2, 1, 0), -1);
        due("no such bobber", t.best(-1, 1, 0), -1);
        due("n 9", t.best(0, 9, 0), -1);
        due("n -1", t.best(0, -1, 0), -1);
        due("what 3", t.best(0, 1, 3), -1);
        due("what -1", t.best(0, 1, -1), -1);
        // only the ground is worth it: first the ground, then he must breathe
        TubBites deep = of("tub 1 by 1;odds free 0;odds wall 0;odds ground 50;apple a at 0 0 size 9 soft 0;"
            + "bobber a at 0 0 reach 0 breath 3 mouth 0;");
        due("five seconds", deep.best(0, 5, 0), 500000);
        due("eight seconds", deep.best(0, 8, 0), 750000);
        due("eight seconds", deep.best(0, 8, 1), 3);
        deep.go(0, 0, 3);
        deep.undo();
        due("a miss by 79", deep.go(0, 0, 2), 0);
        due("breath", deep.bobber(0, 0), 2);
        due("four seconds", deep.best(0, 4, 0), 0);
        due("four seconds", deep.best(0, 4, 2), 0);
        due("five seconds", deep.best(0, 5, 0), 500000);
        due("he breathes first", deep.best(0, 5, 1), -1);
        due("he breathes first", deep.best(0, 5, 2), 1);
        // a piece and no more: the second free try can only be had by the stalk
        TubBites soft = of("tub 1 by 1;odds free 10;odds stalk 9;odds wall 0;bite 0;apple a at 0 0 size 1 soft 0 stalk;"
            + "bobber a at 0 0 reach 0 breath 0 mouth 0;");
        due("one second", soft.best(0, 1, 1), 0);
        due("the stalk first, then free", soft.best(0, 2, 0), 90000 + 91 * 1000);
        due("the stalk first", soft.best(0, 2, 1), 1);
        // a push out of reach
        TubBites away = of("tub 3 by 1;odds free 50;odds lean 0;apple a at 1 0 size 1 soft 0;"
            + "bobber a at 0 0 reach 1 breath 0 mouth 0;");
        due("pushed out of reach", away.best(0, 3, 0), 500000);
        // cut at each try: 333333.33 by thirds of what is cut
        TubBites cut = of("tub 1 by 1;odds free 1;apple a at 0 0 size 1 soft 0;bobber a at 0 0 reach 0 breath 0 mouth 0;");
        due("10000", cut.best(0, 1, 0), 10000);
        due("19900", cut.best(0, 2, 0), 19900);
        due("29701", cut.best(0, 3, 0), 29701);
        due("39403 (cut)", cut.best(0, 4, 0), 39403);
        due("49008 (cut)", cut.best(0, 5, 0), 49008);
    }

    /** With so many apples that can be tried free and no other way, wherever they are pushed. */
    private static long looks(int apples, int seconds) {
        return seconds == 0 ? 1 : 1 + apples * (looks(apples - 1, seconds - 1) + looks(apples, seconds - 1));
    }

    private static void bestSpent() {
        where = "16 (spent)";
        // none comes to stand behind another, so no lean is open; without breath neither wall nor ground is
        String[] cells = {"1 1", "3 1", "1 3", "5 3", "3 5"};
        StringBuilder text = new StringBuilder("tub 6 by 6;bobber a at 1 1 reach 5 breath 0 mouth 0;");
        for (int apples = 1; apples <= 5; apples++) {
            text.append("apple a").append((char) ('a' + apples)).append(" at ").append(cells[apples - 1]).append(" size 1 soft 0;");
            TubBites t = of(text.toString());
            for (int n = 1; n <= 8; n++) {
                due(apples + " apples, " + n + " seconds", t.best(0, n, 0) == -2, looks(apples, n) > 20000);
                due(apples + " apples, " + n + " seconds", t.best(0, n, 1) == -2, looks(apples, n) > 20000);
            }
        }
    }

    /** By these draws the rules' matches are 1 1 1, -2 -1 -2, 2 0 2: one pair rests, the first and the second. */
    private static final String RULES = "tub 5 by 1;draw 207;odds free 35+10*far;odds stalk 20;odds wall 25;"
        + "rule a odds;rule b 0-odds;rule c far;apple a at 1 0 size 9 soft 0 stalk;apple b at 2 0 size 9 soft 0;"
        + "apple c at 3 0 size 9 soft 0;apple d at 0 0 size 9 soft 0 stalk;";
    private static final String FIRST = "bobber a at 0 0 reach 2 breath 3 mouth 0";
    private static final String SECOND = "bobber b at 4 0 reach 3 breath 1 mouth 0";
    private static final String THIRD = "bobber c at 2 0 reach 3 breath 9 mouth 0";
    private static final int[][] MATCHES = {{1, 1, 1}, {-2, -1, -2}, {2, 0, 2}};

    private static void matchByParty(int one, int two) {
        char a = (char) ('a' + one);
        char b = (char) ('a' + two);
        TubBites t = of(RULES + FIRST + " by " + a + ";" + SECOND + " by " + b + ";");
        t.party(10);
        due("a party by " + a + " and " + b, t.bobber(0, 1) - t.bobber(1, 1), MATCHES[one][two]);
    }

    private static void matches() {
        where = "17, 18";
        TubBites t = of(RULES + FIRST + ";" + SECOND + " by c;" + THIRD + " by b;");
        for (int one = 0; one < 3; one++) {
            for (int two = 0; two < 3; two++) {
                due("match(" + one + ", " + two + ")", t.match(one, two), MATCHES[one][two]);
                matchByParty(one, two);
            }
        }
        due("reply(0)", t.reply(0), 2);
        due("reply(1)", t.reply(1), 0);
        due("reply(2)", t.reply(2), 2);
        due("nothing is done", t.about(6), 207);
        due("match(3, 0)", t.match(3, 0), -1000000);
        due("match(0, 3)", t.match(0, 3), -1000000);
        due("match(-1, 0)", t.match(-1, 0), -1000000);
        due("match(0, -1)", t.match(0, -1), -1000000);
        due("reply(3)", t.reply(3), -1);
        due("reply(-1)", t.reply(-1), -1);
        TubBites alone = of("tub 1 by 1;rule a odds;bobber a at 0 0 reach 1 breath 0 mouth 0;");
        due("one bobber", alone.match(0, 0), -1000000);
        due("one bobber", alone.reply(0), -1);
        TubBites ten = of("tub 1 by 1;odds free 100*(tries>8);rule a 1;apple a at 0 0 size 9 soft 0;"
            + "bobber a at 0 0 reach 0 breath 0 mouth 0;bobber b at 0 0 reach 0 breath 0 mouth 0;");
        due("the second one's tenth try", ten.match(0, 0), -1);
        TubBites turns = of("tub 2 by 1;odds free 100*(tries>8);rule a 1;apple a at 0 0 size 9 soft 0;"
            + "bobber a at 0 0 reach 0 breath 0 mouth 0;bobber b at 1 0 reach 0 breath 0 mouth 0;");
        due("in the tenth turn", turns.match(0, 0), 1);
        due("in the tenth turn", turns.seat(0, 10, 2), 1);
        due("not in the ninth", turns.seat(0, 9, 2), 0);
        due("in the tenth turn", turns.order(10), 1);
        due("not in the ninth", turns.order(9), 0);
        due("of like ones the first", turns.lies(0), 0);
        due("of like ones the first", turns.lies(1), 1);
        due("gone with the tenth turn", turns.gone(1), 10);
        due("not in an eleventh turn", of("tub 2 by 1;odds free 100*(tries>9);rule a 1;apple a at 0 0 size 9 soft 0;"
            + "bobber a at 0 0 reach 0 breath 0 mouth 0;bobber b at 1 0 reach 0 breath 0 mouth 0;").match(0, 0), 0);
        // got before it does not count: draws 79, 39 are next; the first misses, the second gets the last one
        TubBites later = of("tub 1 by 2;odds free 50;rule a odds;apple a at 0 0 size 1 soft 0;apple b at 0 1 size 1 soft 0;"
            + "bobber a at 0 0 reach 0 breath 0 mouth 0;bobber b at 0 1 reach 1 breath 0 mouth 0;");
        due("go(0, 0, 0)", later.go(0, 0, 0), 1);
        due("match(0, 0)", later.match(0, 0), -1);
        due("two bobbers are enough", later.reply(0), 0);
    }

    private static void restingPairs() {
        where = "19";
        TubBites t = of(RULES + FIRST + ";" + SECOND + ";" + THIRD + ";");
        due("rests()", t.rests(), 1);
        due("lies(0)", t.lies(0), 1);
        due("lies(1)", t.lies(1), -1);
        TubBites like = of("tub 2 by 1;rule a 1;rule b 2;bobber a at 0 0 reach 1 breath 0 mouth 0;"
            + "bobber b at 0 0 reach 1 breath 0 mouth 0;");
        due("all alike", like.rests(), 4);
        int[] pairs = {0, 1, 10, 11};
        for (int i = 0; i < 4; i++) {
            due("lies(" + i + ")", like.lies(i), pairs[i]);
        }
        TubBites none = of("tub 2 by 1;rule a 1;bobber a at 0 0 reach 1 breath 0 mouth 0;");
        none.order(1);
        due("about(13)", none.about(13), 1);
        due("one bobber", none.rests(), 0);
        due("about(13)", none.about(13), 0);
        due("no rules", of("tub 2 by 1;bobber a at 0 0 reach 1 breath 0 mouth 0;"
            + "bobber b at 0 0 reach 1 breath 0 mouth 0;").rests(), 0);
    }

    private static void records() {
        where = "20";
        TubBites t = of("tub 3 by 1;odds free 40;odds wall 90;rule a kind=2;apple a at 0 0 size 9 soft 0;"
            + "apple b at 2 0 size 9 soft 0;bobber a at 0 0 reach 2 breath 1 mouth 0;bobber b at 0 0 reach 2 breath 9 mouth 0;");
        due("wall, draw 7", t.go(0, 0, 2), 1);
        due("free, draw 79", t.go(0, 1, 0), 0);
        due("party: free, draw 39", t.party(1), 1);
        int[][] due = {{0, 0, 2, 1, 80}, {0, 2, 1, 1, 90}, {0, 1, 0, 0, 0}, {1, 2, 0, 0, 0}};
        for (int[] row : due) {
            for (int what = 0; what < 3; what++) {
                due("record(" + row[0] + ", " + row[1] + ", " + what + ")", t.record(row[0], row[1], what), row[2 + what]);
            }
        }
        t.match(0, 0);
        t.best(0, 3, 0);
        due("asking is not in earnest", t.record(1, 0, 0), 0);
        due("record(2, 0, 0)", t.record(2, 0, 0), -1);
        due("record(-1, 0, 0)", t.record(-1, 0, 0), -1);
        due("record(0, 5, 0)", t.record(0, 5, 0), -1);
        due("record(0, -1, 0)", t.record(0, -1, 0), -1);
        due("record(0, 0, 3)", t.record(0, 0, 3), -1);
        due("record(0, 0, -1)", t.record(0, 0, -1), -1);
    }

    private static void easier() {
        where = "21";
        TubBites t = of("tub 5 by 1;odds free size;apple a at 0 0 size 30 soft 0;apple b at 1 0 size 40 soft 0;"
            + "apple c at 2 0 size 40 soft 0;apple d at 3 0 size 99 soft 0;apple e at 4 0 size 99 soft 0;"
            + "bobber a at 0 0 reach 3 breath 0 mouth 0;");
        due("easier(0, 0)", t.easier(0, 0), 3);
        due("easier(0, 1)", t.easier(0, 1), 1);
        due("easier(0, 3)", t.easier(0, 3), 0);
        due("out of reach", t.easier(0, 4), -1);
        due("no such", t.easier(0, 5), -1);
        due("no such", t.easier(0, -1), -1);
        due("no such", t.easier(1, 0), -1);
        due("no such", t.easier(-1, 0), -1);
        due("the first is easier", of("tub 2 by 1;odds free size;apple a at 0 0 size 30 soft 0;apple b at 1 0 size 20 soft 0;"
            + "bobber a at 0 0 reach 3 breath 0 mouth 0;").easier(0, 1), 1);
        due("got", t.go(0, 3, 0), 1);
        due("easier(0, 0)", t.easier(0, 0), 2);
        due("out", t.easier(0, 3), -1);
    }

    private static void seats() {
        where = "22";
        // From (2, 0) on two are in reach: draws 7 and 79 get both; what is nearer to the left has one or none.
        TubBites t = of("tub 5 by 3;odds free 100;odds wall 0;rule a odds;apple a at 3 1 size 9 soft 0;"
            + "apple b at 3 0 size 9 soft 0;apple c at 1 1 size 9 soft 0;bobber a at 0 0 reach 1 breath 0 mouth 0;"
            + "bobber b at 3 1 reach 5 breath 0 mouth 0;");
        due("x for 1", t.seat(0, 1, 0), 0);
        due("y for 1", t.seat(0, 1, 1), 0);
        due("gets for 1", t.seat(0, 1, 2), 1);
        due("x for 2", t.seat(0, 2, 0), 2);
        due("y for 2", t.seat(0, 2, 1), 0);
        due("gets for 2", t.seat(0, 2, 2), 2);
        due("gets for 10", t.seat(0, 10, 2), 3);
        due("x for 10", t.seat(0, 10, 0), 2);
        due("nothing is done", t.about(6), 0);
        due("n 0", t.seat(0, 0, 0), -1);
        due("n 11", t.seat(0, 11, 0), -1);
        due("what 3", t.seat(0, 1, 3), -1);
        due("what -1", t.seat(0, 1, -1), -1);
        due("no such", t.seat(2, 1, 0), -1);
        due("no such", t.seat(-1, 1, 0), -1);
        // the cell in the middle is not at the rim
        TubBites middle = of("tub 3 by 3;odds free 100;apple a at 1 1 size 9 soft 0;bobber a at 1 1 reach 0 breath 0 mouth 0;");
        due("not at the rim", middle.seat(0, 5, 2), 0);
        due("x", middle.seat(0, 5, 0), 0);
        due("y", middle.seat(0, 5, 1), 0);
        TubBites far = of("tub 4 by 4;odds free 100;apple a at 2 3 size 9 soft 0;bobber a at 1 1 reach 0 breath 0 mouth 0;");
        due("x", far.seat(0, 1, 0), 2);
        due("y", far.seat(0, 1, 1), 3);
    }

    private static void orders() {
        where = "23";
        // draws 7, 79, 39: bobber 0 gets below 10, bobber 1 below 80, bobber 2 below 40: so 0, 1, 2 get all three
        String tub = "tub 1 by 1;odds free breath;apple a at 0 0 size 9 soft 0;"
            + "bobber a at 0 0 reach 0 breath 10 mouth 0;bobber b at 0 0 reach 0 breath 7 mouth 0;";
        TubBites t = of(tub);
        due("order(1)", t.order(1), 1);
        due("lies(0)", t.lies(0), 0);
        due("lies(1)", t.lies(1), 1);
        due("about(13)", t.about(13), 2);
        // odds by mouth: 10 * mouth, far apart, one turn: only the order 2, 0, 1 gets 8, 80, 40 in draws 7, 79, 39
        TubBites three = of("tub 3 by 1;odds free 10*mouth;apple a at 0 0 size 9 soft 0;apple b at 1 0 size 9 soft 0;"
            + "apple c at 2 0 size 9 soft 0;bobber a at 0 0 reach 0 breath 0 mouth 8;"
            + "bobber b at 1 0 reach 0 breath 0 mouth 4;bobber c at 2 0 reach 0 breath 0 mouth 1;");
        due("order(1) of three", three.order(1), 3);
        due("lies(0)", three.lies(0), 2);
        due("lies(1)", three.lies(1), 0);
        due("lies(2)", three.lies(2), 1);
        due("lies(3)", three.lies(3), -1);
        due("nothing is done", three.about(6), 0);
        due("order(0)", three.order(0), -1);
        due("nothing lies there", three.about(13), 0);
        due("order(10)", three.order(10), 3);
        due("order(11)", three.order(11), -1);
        due("nothing lies there", three.lies(0), -1);
        due("order(-1)", three.order(-1), -1);
        due("without bobbers", of("tub 1 by 1;").order(3), 0);
    }

    private static void drives() {
        where = "24";
        TubBites t = of("tub 6 by 1;odds free 100;apple a at 1 0 size 9 soft 0;bobber a at 0 0 reach 3 breath 0 mouth 0;"
            + "bobber b at 5 0 reach 1 breath 0 mouth 0;bobber c at 5 0 reach 0 breath 0 mouth 0;");
        due("drives(0, 1, 0)", t.drives(0, 1, 0), 3);
        due("about(13)", t.about(13), 3);
        for (int i = 0; i < 3; i++) {
            due("lies(" + i + ")", t.lies(i), 0);
        }
        due("out of his reach", t.drives(0, 2, 0), -1);
        due("nothing lies there", t.about(13), 0);
        due("drives(1, 0, 0)", t.drives(1, 0, 0), 0);
        due("nothing lies there", t.lies(0), -1);
        due("the same", t.drives(0, 0, 0), -2);
        due("no such", t.drives(3, 0, 0), -2);
        due("no such", t.drives(0, 3, 0), -2);
        due("no such", t.drives(-1, 0, 0), -2);
        due("no such", t.drives(0, -1, 0), -2);
        due("no such", t.drives(0, 1, 1), -2);
        due("no such", t.drives(0, 1, -1), -2);
        due("nothing is done", t.apple(0, 3), 0);
        t.drives(0, 1, 0);
        due("got", t.go(0, 0, 0), 1);
        due("out", t.drives(0, 1, 0), -2);
        due("nothing lies there", t.about(13), 0);
        // the told apple is driven by the one behind it
        TubBites row = of("tub 5 by 1;odds free 0;apple a at 2 0 size 9 soft 0;apple b at 1 0 size 9 soft 0;"
            + "bobber a at 0 0 reach 1 breath 0 mouth 0;bobber b at 4 0 reach 1 breath 0 mouth 0;");
        due("drives(0, 1, 0)", row.drives(0, 1, 0), 1);
        due("lies(0)", row.lies(0), 1);
        // bitten once it is eaten, so it can't be driven
        TubBites soft = of("tub 5 by 1;bite 0;apple a at 1 0 size 2 soft 0;bobber a at 0 0 reach 5 breath 0 mouth 0;"
            + "bobber b at 4 0 reach 1 breath 0 mouth 0;");
        due("eaten on the way", soft.drives(0, 1, 0), -1);
        TubBites four = of("tub 6 by 1;apple a at 1 0 size 2 soft 0;bobber a at 0 0 reach 5 breath 0 mouth 0;"
            + "bobber b at 5 0 reach 0 breath 0 mouth 0;");
        due("four", four.drives(0, 1, 0), 4);
        TubBites five = of("tub 6 by 1;bite 9;apple a at 1 0 size 2 soft 0;bobber a at 0 0 reach 5 breath 0 mouth 0;"
            + "bobber b at 5 0 reach 0 breath 0 mouth 0;");
        five.wave(0);
        due("it is where he is", five.drives(0, 1, 0), -1);
    }

    private static void goneAndProvide() {
        where = "25, 26";
        // each gets with each draw, one apple a turn: a set of three is gone with turn 3
        TubBites t = of("tub 4 by 1;odds free 100;apple a at 0 0 size 9 soft 0;apple b at 1 0 size 9 soft 0;"
            + "apple c at 2 0 size 9 soft 0;apple d at 3 0 size 9 soft 0;bobber a at 0 0 reach 2 breath 0 mouth 0;");
        due("gone(0)", t.gone(0), 0);
        due("gone(1)", t.gone(1), 1);
        due("gone(6)", t.gone(6), 2);
        due("gone(7)", t.gone(7), 3);
        due("out of reach", t.gone(8), -1);
        due("gone(15)", t.gone(15), -1);
        due("no such", t.gone(16), -2);
        due("no such", t.gone(-1), -2);
        due("nothing is done", t.about(3), 4);
        due("provide(60, 1)", t.provide(60, 1), 8);
        due("provide(60, 0)", t.provide(60, 0), 1);
        t.wave(0);
        due("got", t.go(0, 0, 0), 1);
        due("out", t.gone(1), -2);
        due("out", t.gone(3), -2);
        t.wave(0);
        due("provide(1, 0)", t.provide(1, 0), 2);
        due("provide(1, 1)", t.provide(1, 1), 6);
        due("provide(2, 0)", t.provide(2, 0), 3);
        due("provide(2, 1)", t.provide(2, 1), 14);
        due("all are not enough", t.provide(3, 0), -1);
        due("all are not enough", t.provide(3, 1), -1);
        due("n 0", t.provide(0, 0), -1);
        due("n 61", t.provide(61, 0), -1);
        due("what 2", t.provide(1, 2), -1);
        due("what -1", t.provide(1, -1), -1);
        // eaten ones are not in the tub: five bites, one a turn
        TubBites soft = of("tub 1 by 1;odds free 0;bite 0;apple a at 0 0 size 5 soft 0;bobber a at 0 0 reach 0 breath 0 mouth 0;");
        due("eaten", soft.gone(1), 5);
        due("still there behind 4", soft.provide(4, 0), 1);
        due("not behind 5", soft.provide(5, 0), -1);
        TubBites big = of("tub 1 by 1;odds free 0;bite 0;apple a at 0 0 size 60 soft 0;bobber a at 0 0 reach 0 breath 0 mouth 0;");
        due("just in 60", big.gone(1), 60);
        due("just not in 60", of("tub 1 by 1;odds free 0;bite 0;apple a at 0 0 size 61 soft 0;"
            + "bobber a at 0 0 reach 0 breath 0 mouth 0;").gone(1), -1);
        due("in 60 turns gone", big.provide(60, 0), -1);
        due("in 59 not", big.provide(59, 1), 1);
        // others are away: nothing to lean on
        TubBites lean = of("tub 3 by 1;odds free 0;odds lean 100;rule a odds;apple a at 1 0 size 9 soft 0;"
            + "apple b at 2 0 size 9 soft 0;bobber a at 0 0 reach 1 breath 0 mouth 0;");
        due("alone", lean.gone(1), -1);
    }

    private static void wavesAsked() {
        where = "28";
        TubBites t = of("tub 3 by 3;apple a at 0 0 size 1 soft 0;apple b at 1 0 size 1 soft 0;apple c at 2 0 size 1 soft 0;");
        due("there already", t.waves(0, 0, 0), 0);
        due("about(13)", t.about(13), 0);
        due("up twice, then right can't be: the row is full", t.waves(0, 0, 2), 2);
        due("lies(0)", t.lies(0), 2);
        due("lies(1)", t.lies(1), 2);
        due("never", t.waves(0, 1, 0), -1);
        due("nothing lies there", t.about(13), 0);
        TubBites one = of("tub 4 by 4;apple a at 0 0 size 1 soft 0;bobber a at 0 0 reach 0 breath 0 mouth 0;odds free 100;");
        due("six", one.waves(0, 3, 3), 6);
        for (int i = 0; i < 6; i++) {
            due("lies(" + i + ")", one.lies(i), i < 3 ? 1 : 2);
        }
        due("lies(6)", one.lies(6), -1);
        due("no cell", one.waves(0, 4, 0), -2);
        due("nothing lies there", one.about(13), 0);
        due("no cell", one.waves(0, 0, 4), -2);
        due("no cell", one.waves(0, -1, 0), -2);
        due("no cell", one.waves(0, 0, -1), -2);
        due("no apple", one.waves(1, 0, 0), -2);
        due("no apple", one.waves(-1, 0, 0), -2);
        due("nothing is done", one.apple(0, 0), 0);
        one.go(0, 0, 0);
        due("out", one.waves(0, 0, 0), -2);
        TubBites left = of("tub 4 by 1;apple a at 3 0 size 1 soft 0;");
        due("to the left", left.waves(0, 1, 0), 2);
        due("lies(0)", left.lies(0), 0);
        due("lies(1)", left.lies(1), 0);
        TubBites down = of("tub 1 by 4;apple a at 0 3 size 1 soft 0;");
        due("down", down.waves(0, 0, 2), 1);
        due("lies(0)", down.lies(0), 3);
        // two waves either way: left and up come before up and left
        TubBites either = of("tub 2 by 2;apple a at 1 0 size 1 soft 0;");
        due("either way", either.waves(0, 0, 1), 2);
        due("lies(0)", either.lies(0), 0);
        due("lies(1)", either.lies(1), 2);
        TubBites seven = of("tub 6 by 4;apple a at 0 0 size 1 soft 0;");
        due("seven are too many", seven.waves(0, 4, 3), -1);
        due("six will do", seven.waves(0, 5, 1), 6);
    }

    private static void fills() {
        where = "29";
        // free odds are 5 * soft: 0, 25, 45: lasts 9999, 40, 22; whether in reach or not
        TubBites t = of("tub 6 by 1;odds free 5*soft;apple a at 5 0 size 10 soft 5;apple b at 4 0 size 20 soft 0;"
            + "apple c at 3 0 size 10 soft 9;apple d at 2 0 size 10 soft 5;bobber a at 0 0 reach 2 breath 0 mouth 0;");
        due("room 0", t.fill(0, 0, 0), 0);
        due("room 0", t.fill(0, 0, 1), 0);
        due("room 9", t.fill(0, 9, 0), 0);
        due("room 10: the least", t.fill(0, 10, 0), 1);
        due("room 10", t.fill(0, 10, 1), 40);
        due("room 20", t.fill(0, 20, 0), 2);
        due("room 20", t.fill(0, 20, 1), 9999);
        due("room 30", t.fill(0, 30, 0), 3);
        due("room 40", t.fill(0, 40, 0), 11);
        due("room 40", t.fill(0, 40, 1), 9999 + 80);
        due("room 999", t.fill(0, 999, 0), 15);
        due("room 1000", t.fill(0, 1000, 0), -1);
        due("room -1", t.fill(0, -1, 0), -1);
        due("what 2", t.fill(0, 10, 2), -1);
        due("what -1", t.fill(0, 10, -1), -1);
        due("no such", t.fill(1, 10, 0), -1);
        due("no such", t.fill(-1, 10, 0), -1);
        due("got", t.go(0, 3, 0), 1);
        due("those in the tub alone", t.fill(0, 999, 0), 7);
        TubBites bitten = of("tub 1 by 1;odds free 100-50*tries;bite 0;apple a at 0 0 size 9 soft 0;bobber a at 0 0 reach 0 breath 0 mouth 3;draw 71;");
        due("room 5", bitten.fill(0, 5, 0), 0);
        due("lasts 10", bitten.fill(0, 9, 1), 10);
        TubBites half = of("tub 1 by 1;odds free 79-20*tries;bite 0;apple a at 0 0 size 9 soft 0;bobber a at 0 0 reach 0 breath 0 mouth 3;draw 71;");
        due("missed by 79", half.go(0, 0, 0), 0);
        due("as it is now", half.fill(0, 5, 0), 1);
        due("as it is now", half.fill(0, 5, 1), 1000 / 59);
    }

    private static void coins() {
        where = "30";
        TubBites t = of("tub 4 by 1;odds free 100;apple a at 0 0 size 9 soft 0 coin 6;apple b at 1 0 size 9 soft 0 coin 0;"
            + "apple c at 2 0 size 9 soft 0;apple d at 3 0 size 9 soft 0 coin 2;bobber a at 0 0 reach 5 breath 0 mouth 0;");
        int[][] due = {{6, 9}, {0, 1}, {1, 9}, {2, 9}};
        for (int a = 0; a < 4; a++) {
            for (int part = 0; part < 2; part++) {
                int own = due[a][part] / (a == 0 ? 3 : 1);
                due("coin(" + a + ", " + part + ")", t.coin(a, part), own);
            }
        }
        due("no such", t.coin(4, 0), -1);
        due("no such", t.coin(-1, 0), -1);
        due("part 2", t.coin(0, 2), -1);
        due("part -1", t.coin(0, -1), -1);
        t.go(0, 2, 0);
        due("of those in the tub", t.coin(0, 0), 3);
        due("of those in the tub", t.coin(0, 1), 4);
        due("out", t.coin(2, 0), 0);
        due("out", t.coin(2, 1), 1);
        t.go(0, 0, 0);
        due("surely", t.coin(3, 0), 1);
        due("surely", t.coin(3, 1), 1);
        t.go(0, 3, 0);
        due("all coins are 0", t.coin(1, 0), 0);
        due("all coins are 0", t.coin(1, 1), 1);
    }

    private static void lies() {
        where = "31";
        TubBites t = of("tub 4 by 4;apple a at 0 0 size 1 soft 0;");
        due("lies(0)", t.lies(0), -1);
        t.waves(0, 1, 1);
        due("lies(0)", t.lies(0), 1);
        due("lies(1)", t.lies(1), 2);
        due("lies(2)", t.lies(2), -1);
        due("lies(-1)", t.lies(-1), -1);
        due("lies(1000000)", t.lies(1000000), -1);
        t.wave(1);
        due("an act leaves it", t.lies(1), 2);
        due("about(13)", t.about(13), 2);
    }

    private static void picks() {
        where = "32, 33, 34";
        TubBites t = of("tub 3 by 1;odds free 100;apple a at 0 0 size 1 soft 0;apple b at 2 0 size 1 soft 0;"
            + "bobber a at 0 0 reach 0 breath 0 mouth 0;");
        due("no bobber", t.pick(1, 1, 0), -1);
        due("no bobber", t.pick(-1, 1, 0), -1);
        due("no apple", t.pick(0, 4, 2), -1);
        due("no apple", t.pick(0, 7, 0), -1);
        due("no apple", t.pick(0, -1, 0), -1);
        due("not in the set", t.pick(0, 1, 1), -1);
        due("not in the set", t.pick(0, 3, 2), -1);
        due("not in the set", t.pick(0, 3, -1), -1);
        due("not in the set", t.pick(0, 3, 32), -1);
        due("none", t.about(9), 0);
        due("pick", t.pick(0, 3, 1), 0);
        t.go(0, 0, 0);
        due("of those that are out, too", t.pick(0, 1, 0), 1);
        due("about(9)", t.about(9), 2);
        due("later(0)", t.later(0), 0);
        due("later(1000)", t.later(1000), 1000);
        due("later(1001)", t.later(1001), -1);
        due("later(-1)", t.later(-1), -1);
        due("untell(1)", t.untell(1), true);
        due("untell(1)", t.untell(1), false);
        due("untell(2)", t.untell(2), false);
        due("untell(-1)", t.untell(-1), false);
        due("about(9)", t.about(9), 2);
        for (int i = 2; i < 30; i++) {
            due("pick", t.pick(0, 3, 1), i);
        }
        due("there are 30", t.pick(0, 3, 1), -1);
        due("about(9)", t.about(9), 30);
        for (int i = 2; i <= 100; i++) {
            due("later(1000)", t.later(1000), 1000 * i);
        }
        due("later(1)", t.later(1), -1);
        due("later(0)", t.later(0), 100000);
        due("about(10)", t.about(10), 100000);
    }

    private static void fitsAndNearest() {
        where = "27, 35";
        TubBites t = of("tub 4 by 2;odds free 90-10*far-20*tries+breath;rule a odds;rule b size;rule c wall;rule d breath;rule e 0-far;"
            + "rule f kind+tries;apple a at 1 0 size 5 soft 0;apple b at 3 1 size 9 soft 0;apple c at 2 1 size 5 soft 0;"
            + "bobber a at 0 0 reach 5 breath 5 mouth 0;bobber b at 3 1 reach 0 breath 9 mouth 0;");
        due("all without picks", t.fits(0), 63);
        due("the first without picks", t.nearest(0, 0), 0);
        due("none without picks", t.nearest(1, 0), 0);
        t.go(0, 0, 3);
        t.go(0, 0, 0);
        t.wave(1);
        due("a of all", t.pick(0, 7, 0), 0);
        due("as told: near a, first of like ones c, d, f", t.fits(0), 1 + 4 + 8 + 16 + 32);
        t.later(2);
        due("b of all", t.pick(1, 7, 1), 1);
        due("fits(0)", t.fits(0), 61);
        due("fits(1)", t.fits(1), 61);
        due("fits(2)", t.fits(2), 1 + 16);
        due("fits(-1)", t.fits(-1), 63);
        due("nearest(0, 2)", t.nearest(0, 2), 0);
        t.later(1);
        due("b of all by the other one", t.pick(0, 6, 1), 2);
        // a: far 3 against 2, so not; b: 9, but not for the first pick; c, d, f: the first of b and c, not the second pick
        due("fits(3)", t.fits(3), 0);
        due("nearest(0, 3)", t.nearest(0, 3), 0);
        due("nearest(1, 3)", t.nearest(1, 3), 1);
        t.later(1);
        due("untell(0)", t.untell(0), true);
        due("fits(4)", t.fits(4), 2);
        due("fits(3) as known then", t.fits(3), 0);
        due("nearest(0, 4)", t.nearest(0, 4), 1);
        due("nearest(1, 4)", t.nearest(1, 4), 0);
        due("nearest(0, 3)", t.nearest(0, 3), 0);
        due("what 2", t.nearest(2, 3), -1);
        due("what -1", t.nearest(-1, 3), -1);
        due("told and untold at once", t.pick(0, 7, 2), 3);
        due("fits(4)", t.fits(4), 0);
        due("untell(3)", t.untell(3), true);
        due("fits(4)", t.fits(4), 2);
        due("without rules", of("tub 1 by 1;").nearest(0, 0), -1);
        due("without rules", of("tub 1 by 1;").fits(0), 0);
    }

    private static void chances() {
        where = "36";
        TubBites t = of("tub 6 by 2;" + numbered("apple a# at @ size 1 soft 0;", 10) + "bobber a at 0 0 reach 0 breath 0 mouth 0;");
        due("chance(0)", t.chance(0), 1);
        t.pick(0, 7, 0);
        due("chance(0)", t.chance(0), 3);
        due("chance(-1)", t.chance(-1), 1);
        t.later(1);
        t.pick(0, 1, 0);
        t.pick(0, 30, 1);
        due("chance(0)", t.chance(0), 3);
        due("chance(1)", t.chance(1), 12);
        t.later(1);
        t.untell(0);
        t.untell(2);
        due("chance(2)", t.chance(2), 1);
        long product = 1;
        for (int i = 0; i < 15; i++) {
            t.pick(0, 1023, 0);
            product *= 10;
            due("chance(2)", t.chance(2), product);
        }
        t.pick(0, 1, 0);
        due("just as much", t.chance(2), 1000000000000000L);
        for (int i = 0; i < 10; i++) {
            t.pick(0, 1023, 0);
            due("no more", t.chance(2), 1000000000000000L);
        }
    }

    private static void images() {
        where = "37, 38";
        TubBites t = of("tub 3 by 1;odds free 50;rule a odds;apple a at 0 0 size 9 soft 0;apple b at 1 0 size 9 soft 0;"
            + "bobber a at 0 0 reach 1 breath 3 mouth 0;");
        due("back(0)", t.back(0), -1);
        due("back(3)", t.back(3), -1);
        due("back(-1)", t.back(-1), -1);
        due("image(3)", t.image(3), -1);
        due("image(-1)", t.image(-1), -1);
        due("image(0)", t.image(0), 2);
        due("go, draw 7", t.go(0, 0, 3), 1);
        due("image(2)", t.image(2), 1);
        due("go, draw 79", t.go(0, 1, 0), 0);
        due("about(7)", t.about(7), 2);
        t.later(7);
        t.pick(0, 3, 0);
        due("back(2)", t.back(2), 1);
        due("apple(1, 0)", t.apple(1, 0), 1);
        due("apple(1, 3)", t.apple(1, 3), 0);
        due("bobber(0, 0)", t.bobber(0, 0), 0);
        due("bobber(0, 1)", t.bobber(0, 1), 1);
        due("bobber(0, 2)", t.bobber(0, 2), 3);
        due("record", t.record(0, 0, 0), 0);
        due("record", t.record(0, 3, 1), 1);
        due("seed", t.about(6), 71);
        due("no acts", t.undo(), false);
        due("picks stay", t.about(9), 1);
        due("time stays", t.about(10), 7);
        t.wave(1);
        t.undo();
        due("about(8)", t.about(8), 1);
        due("back(0)", t.back(0), 2);
        due("no acts", t.redo(), false);
        due("seed", t.about(6), 0);
        due("bobber(0, 0)", t.bobber(0, 0), 3);
        due("image(0) leaves acts", t.wave(0) + t.image(0), 2);
        due("about(7)", t.about(7), 1);
        due("back(1)", t.back(1), -1);
        due("about(7)", t.about(7), 1);
        due("back(2) once more", t.back(2), 1);
    }

    private static void about() {
        where = "39";
        TubBites t = of("tub 5 by 3;draw 8;odds free 100;odds lean 1+(2);rule a odds;rule b odds*2;"
            + numbered("apple a# at @ size 1 soft 0;", 3) + numbered("bobber b# at 0 0 reach 1 breath 1 mouth 1;", 4));
        t.go(0, 0, 0);
        t.wave(0);
        t.wave(0);
        t.undo();
        t.later(9);
        t.pick(0, 1, 0);
        t.order(1);
        t.feed(0, 0, 0, 0, 0);
        t.end(13);
        int seed = (8 * 137 + 71) % 1000;
        int[] all = {5, 3, 3, 2, 4, 2, seed, 2, 1, 1, 9, 13, 1 + 3 + 1 + 2, 4};
        for (int what = 0; what < all.length; what++) {
            due("about(" + what + ")", t.about(what), all[what]);
        }
        due("about(14)", t.about(14), -1);
        due("about(-1)", t.about(-1), -1);
    }
}
