import java.util.Arrays;

/** Sentences of part 1 of the terms and of the promises 1 to 5: the tape, the text, its faults. */
public final class TextSentencesTests extends Sentences {
    private static final String TUB = "tub 6 by 5;";
    private static final String APPLE = "apple a at 0 0 size 1 soft 1 ";
    private static final String BOBBER = "bobber a at 0 0 reach 1 breath 1 mouth 1 ";
    private static final String[] OWN_WORDS = ("tub by odds free stalk wall ground lean rule apple at size soft coin bobber "
        + "reach breath mouth draw bite or and not far tries kind").split(" ");

    public static void main(String[] asked) throws Exception {
        run(TextSentencesTests.class, asked);
    }

    // Promise 1

    @Says({"1: An empty TUB.", "c: `NONE = -1`: There is none.", "c: `GAP = -1000000`: No number is there."})
    private static void newObjectIsEmpty() {
        TubBites t = new TubBites();
        for (int what = 0; what <= 13; what++) {
            due("about(" + what + ")", t.about(what), 0);
        }
        due("apple(0, 0)", t.apple(0, 0), -2);
        due("bobber(0, 0)", t.bobber(0, 0), -1);
        due("lies(0)", t.lies(0), -1);
        due("back(0)", t.back(0), -1);
        due("undo()", t.undo(), false);
        due("redo()", t.redo(), false);
        due("NONE", TubBites.NONE, -1);
        due("GAP", TubBites.GAP, -1000000);
    }

    // Promises 2 and 3

    @Says({"2: Twenty bytes come behind those on the TAPE, of each number the highest first: how many there are"})
    private static void twentyBytesComeHighestFirst() {
        TubBites t = new TubBites();
        // "tub 4 by 3;draw 257;" and "bite 0;" with blanks behind it
        due("feed", t.feed(0x74756220, 0x34206279, 0x20333b64, 0x72617720, 0x3235373b), 20);
        due("feed", t.feed(0x62697465, 0x20303b20, 0x0a0a0a0a, 0x20202020, 0x20202020), 40);
        due("about(11)", t.about(11), 40);
        due("tub()", t.tub(), 0);
        due("about(0)", t.about(0), 4);
        due("about(1)", t.about(1), 3);
        due("about(6)", t.about(6), 257);
    }

    @Says({"2: Twenty bytes come behind those on the TAPE"})
    private static void bytesBelowNoughtComeToo() {
        TubBites t = new TubBites();
        due("feed", t.feed(-1, Integer.MIN_VALUE, Integer.MAX_VALUE, 0, 1), 20);
        due("tub()", t.tub(), -1);
        due("fault(1)", t.fault(1), 0);
        // behind a text that was cut: "tub 4 by 3;" and then what comes
        t.feed(0x74756220, 0x34206279, 0x20333b64, 0x72617720, 0x3235373b);
        due("end(11)", t.end(11), 11);
        due("feed", t.feed(0x64726177, 0x20333b00, 0, 0, 0), 31);
        due("end(18)", t.end(18), 18);
        due("tub()", t.tub(), 0);
        due("about(6)", t.about(6), 3);
    }

    @Says({"2: NONE, and nothing comes, if there would be more than 1,600"})
    private static void noMoreThan1600Come() {
        TubBites t = new TubBites();
        tape(t, TUB + " ".repeat(1600 - TUB.length() - 20));
        due("about(11)", t.about(11), 1580);
        due("feed to just 1,600", t.feed(0x20202020, 0x20202020, 0x20202020, 0x64726177, 0x2037373b), 1600);
        due("feed beyond", t.feed(1, 2, 3, 4, 5), -1);
        due("about(11)", t.about(11), 1600);
        due("feed beyond again", t.feed(1, 2, 3, 4, 5), -1);
        due("tub()", t.tub(), 0);
        due("the last bytes are there", t.about(6), 77);
    }

    @Says({"2: NONE, and nothing comes, if there would be more than 1,600"})
    private static void nothingComesIfAByteIsTooMany() {
        TubBites t = new TubBites();
        tape(t, TUB + " ".repeat(1581 - TUB.length()));
        due("about(11)", t.about(11), 1581);
        due("one byte too many", t.feed(0x3b3b3b3b, 0x3b3b3b3b, 0x3b3b3b3b, 0x3b3b3b3b, 0x3b3b3b3b), -1);
        due("about(11)", t.about(11), 1581);
        due("end(1582)", t.end(1582), -1);
        due("nothing came", t.tub(), 0);
    }

    @Says({"3: The TAPE has its first n bytes: n"})
    private static void theFirstBytesStay() {
        TubBites t = new TubBites();
        tape(t, "tub 4 by 3;draw 257;");
        due("all of them", t.end(20), 20);
        due("end(11)", t.end(11), 11);
        due("about(11)", t.about(11), 11);
        due("those cut off are gone", t.end(12), -1);
        due("tub()", t.tub(), 0);
        due("about(6)", t.about(6), 0);
        tape(t, "$$$$");
        due("end(0)", t.end(0), 0);
        due("about(11)", t.about(11), 0);
        due("tub()", t.tub(), 0);
        due("about(0)", t.about(0), 0);
    }

    @Says({"3: The TAPE has its first n bytes: n"})
    private static void whatIsCutOffIsNotRead() {
        TubBites t = new TubBites();
        tape(t, TUB + "rule abcdefghi 1;");
        due("end", t.end(TUB.length() + 13), TUB.length() + 13);
        due("a word of 8", t.tub(), -1);
        due("fault(0)", t.fault(0), 2);
        due("fault(1)", t.fault(1), TUB.length() + 13);
        tape(t, "tub 6 by 55;");
        due("end(10)", t.end(10), 10);
        due("feed", t.feed(0x3b202020, 0x20202020, 0x20202020, 0x20202020, 0x20202020), 30);
        due("5, not 55", t.tub(), 0);
        due("about(1)", t.about(1), 5);
        tape(t, TUB + " ".repeat(1581) + "rule abc");
        due("a word up to the last byte", t.tub(), -1);
        due("fault(1)", t.fault(1), 1600);
    }

    @Says({"3: NONE, doing nothing, if it has not so many"})
    private static void endBeyondTheTape() {
        TubBites t = new TubBites();
        due("end(1) of none", t.end(1), -1);
        due("end(0) of none", t.end(0), 0);
        tape(t, TUB);
        for (int n : new int[] {12, 13, 20, 1600, 1601, Integer.MAX_VALUE}) {
            due("end(" + n + ")", t.end(n), -1);
            due("about(11)", t.about(11), 11);
        }
        due("tub()", t.tub(), 0);
        due("about(1)", t.about(1), 5);
    }

    @Says({"3: or n is below 0"})
    private static void endBelowNought() {
        TubBites t = new TubBites();
        tape(t, TUB);
        for (int n : new int[] {-1, -11, Integer.MIN_VALUE}) {
            due("end(" + n + ")", t.end(n), -1);
            due("about(11)", t.about(11), 11);
        }
        due("tub()", t.tub(), 0);
        due("about(0)", t.about(0), 6);
    }

    // Promise 4

    /** Acts, undone acts, picks, what lies there, boxes, time. */
    private static TubBites busy() {
        TubBites t = of(TUB + "draw 5;odds free 1+2+3;rule a 1;" + apple('a', 1, 0) + apple('b', 3, 3) + bobber('a', 0, 0, 1, 2));
        for (int box = 0; box < 3; box++) {
            due("image(" + box + ")", t.image(box), 2);
        }
        due("go(0, 0, 0)", t.go(0, 0, 0), 0);
        due("wave(0)", t.wave(0), 2);
        due("undo()", t.undo(), true);
        due("pick(0, 3, 1)", t.pick(0, 3, 1), 0);
        due("later(9)", t.later(9), 9);
        due("order(2)", t.order(2), 0);
        return t;
    }

    @Says({"4: The TAPE (empty then) is the TUB", "4: how many APPLES"})
    private static void theTapeIsTheTub() {
        TubBites t = busy();
        tape(t, "tub 2 by 1;apple a at 1 0 size 4 soft 0;");
        due("tub()", t.tub(), 1);
        due("about(11)", t.about(11), 0);
        due("about(0)", t.about(0), 2);
        due("the tape is empty: so is the tub", t.tub(), 0);
        due("about(0)", t.about(0), 0);
        due("about(2)", t.about(2), 0);
    }

    @Says({"4: (all as told,"})
    private static void allIsAsTold() {
        TubBites t = busy();
        tape(t, "tub 2 by 1;draw 9;apple a at 1 0 size 4 soft 0;bobber a at 0 0 reach 1 breath 7 mouth 0;");
        due("tub()", t.tub(), 1);
        int[] apple = {1, 0, -1, 0, 4};
        int[] bobber = {7, 0, 0};
        for (int what = 0; what < 5; what++) {
            due("apple(0, " + what + ")", t.apple(0, what), apple[what]);
        }
        for (int what = 0; what < 3; what++) {
            due("bobber(0, " + what + ")", t.bobber(0, what), bobber[what]);
            due("record(0, 0, " + what + ")", t.record(0, 0, what), 0);
        }
        due("odds that are told no longer", t.odds(0, 0, 0), 50);
        due("seed", t.about(6), 9);
        due("rules", t.about(5), 0);
        due("units", t.about(12), 0);
    }

    /** An object may keep something of a text that it has read, so each is told more than once. */
    @Says({"4: (all as told,"})
    private static void textAfterText() {
        TubBites t = new TubBites();
        String full = "tub 6 by 5;draw 7;bite 0;odds free 1+2;odds stalk 3;odds wall 4;odds ground 5;odds lean 6;rule a size;rule b 0-size;"
            + "apple a at 1 0 size 5 soft 0 stalk coin 3;" + apple('b', 2, 0) + "bobber a at 0 0 reach 5 breath 9 mouth 3 by b;"
            + "bobber b at 0 0 reach 5 breath 9 mouth 3 by b;";
        int[] all = {6, 5, 2, 2, 2, 2, 7, 0, 0, 0, 0, 0, 9, 0};
        for (int time = 0; time < 4; time++) {
            tape(t, full);
            due("tub()", t.tub(), 2);
            for (int what = 0; what < 14; what++) {
                due("about(" + what + ")", t.about(what), all[what]);
            }
            due("by b", t.chooses(1), 0);
            due("got", t.go(0, 1, 0), 0);
            due("a party", t.party(20) >= 0, true);
            tape(t, "tub 3 by 2;rule a 0-far;rule b far;apple a at 1 0 size 5 soft 9;" + apple('b', 2, 0)
                + bobber('a', 0, 0, 2, 3) + bobber('b', 2, 0, 2, 3));
            due("tub()", t.tub(), 2);
            due("by the first rule", t.chooses(0), 0);
            due("by the first rule", t.chooses(1), 10);
            for (int kind = 0; kind < 5; kind++) {
                due("odds that are not told", t.odds(0, 0, kind), kind == 1 ? -1 : 50);
            }
            due("coin(0, 1)", t.coin(0, 1), 2);
            due("units", t.about(12), 3);
            due("seed", t.about(6), 0);
            due("got", t.bobber(0, 1), 0);
            due("draw 7", t.go(0, 0, 0), 1);
            due("got", t.bobber(0, 1), 1);
            due("draw 79", t.go(0, 1, 0), 0);
            due("no bite", t.apple(1, 4), 9);
            due("tub() of none", t.tub(), 0);
            for (int what = 0; what < 14; what++) {
                due("about(" + what + ") of none", t.about(what), 0);
            }
        }
    }

    @Says({"4: no ACTS are kept,"})
    private static void noActsAreKeptBehindATub() {
        TubBites t = busy();
        due("about(7)", t.about(7), 1);
        due("about(8)", t.about(8), 1);
        tape(t, TUB);
        t.tub();
        due("undo()", t.undo(), false);
        due("redo()", t.redo(), false);
        due("about(7)", t.about(7), 0);
        due("about(8)", t.about(8), 0);
    }

    @Says({"4: PICKS are none,"})
    private static void noPicksBehindATub() {
        TubBites t = busy();
        tape(t, TUB + apple('a', 0, 0) + apple('b', 1, 0) + bobber('a', 0, 0, 1, 2));
        due("tub()", t.tub(), 2);
        due("about(9)", t.about(9), 0);
        due("chance(9)", t.chance(9), 1);
        due("untell(0)", t.untell(0), false);
        due("they begin with 0", t.pick(0, 3, 0), 0);
    }

    @Says({"4: nothing lies there,"})
    private static void nothingLiesThereBehindATub() {
        TubBites t = busy();
        lying(t, 0);
        tape(t, TUB);
        t.tub();
        lying(t);
    }

    @Says({"4: BOXES are empty then;"})
    private static void boxesAreEmptyBehindATub() {
        TubBites t = busy();
        tape(t, TUB);
        t.tub();
        for (int box = 0; box < 3; box++) {
            due("back(" + box + ")", t.back(box), -1);
        }
        due("image(1)", t.image(1), 0);
        due("back(1)", t.back(1), 0);
        due("back(2)", t.back(2), -1);
    }

    @Says({"4: the TIME stays)"})
    private static void theTimeStays() {
        TubBites t = busy();
        tape(t, TUB);
        t.tub();
        due("about(10)", t.about(10), 9);
        due("later(1)", t.later(1), 10);
    }

    @Says({"4: NONE: a FAULT"})
    private static void aFaultAnswersNone() {
        TubBites t = new TubBites();
        tape(t, TUB + ";");
        due("tub()", t.tub(), -1);
        due("fault(0)", t.fault(0), 2);
    }

    @Says({"4: (the TAPE is empty then, too,"})
    private static void theTapeIsEmptyBehindAFault() {
        TubBites t = new TubBites();
        tape(t, TUB + ";");
        due("tub()", t.tub(), -1);
        due("about(11)", t.about(11), 0);
        due("end(1)", t.end(1), -1);
        due("tub() of the empty tape", t.tub(), 0);
    }

    @Says({"4: all else stays)"})
    private static void allElseStaysBehindAFault() {
        TubBites t = busy();
        int[] about = new int[14];
        for (int what = 0; what < 14; what++) {
            about[what] = t.about(what);
        }
        tape(t, "tub 2 by 1;draw 9;odds free 1;rule a 1;rule b 1;apple a at 0 0 size 4 soft 0;"
            + "bobber a at 0 0 reach 1 breath 9 mouth 0;bobber b at 0 0 reach 1 breath 9 mouth 0;apple b at 0 0");
        due("tub()", t.tub(), -1);
        for (int what = 0; what < 14; what++) {
            due("about(" + what + ")", t.about(what), about[what]);
        }
        at(t, 2, 0, 3, 3);
        due("apple(0, 3)", t.apple(0, 3), 1);
        due("apple(0, 4)", t.apple(0, 4), 9);
        due("bobber(0, 0)", t.bobber(0, 0), 2);
        due("bobber(0, 2)", t.bobber(0, 2), 1);
        due("record(0, 0, 2)", t.record(0, 0, 2), 6);
        due("chance(9)", t.chance(9), 2);
        lying(t, 0);
        due("redo()", t.redo(), true);
        at(t, 1, 0, 2, 3);
        for (int box = 0; box < 3; box++) {
            due("back(" + box + ")", t.back(box), 2);
        }
        at(t, 1, 0, 3, 3);
        due("odds(0, 0, 0)", t.odds(0, 0, 0), 6);
    }

    // Promise 5

    @Says({"5: Of the latest tub() what 0: its FAULT", "5: 1: its place"})
    private static void ofTheLatestTub() {
        TubBites t = new TubBites();
        tape(t, TUB + ";");
        t.tub();
        due("fault(0)", t.fault(0), 2);
        due("fault(1)", t.fault(1), 11);
        tape(t, "tub 7");
        t.tub();
        due("fault(0)", t.fault(0), 4);
        due("fault(1)", t.fault(1), 4);
        t.feed(1, 1, 1, 1, 1);
        due("fault(0)", t.fault(0), 4);
        due("fault(1)", t.fault(1), 4);
    }

    @Says({"5: ahead of any, too)"})
    private static void noFaultAheadOfAnyTub() {
        TubBites t = new TubBites();
        due("fault(0)", t.fault(0), 0);
        due("fault(1)", t.fault(1), -1);
        tape(t, "$");
        due("not yet read", t.fault(0), 0);
        due("not yet read", t.fault(1), -1);
    }

    @Says({"5: (0: without;", "5: 1: its place (NONE)."})
    private static void noFault() {
        TubBites t = of(TUB);
        due("fault(0) without", t.fault(0), 0);
        due("fault(1) without", t.fault(1), -1);
        tape(t, "$");
        t.tub();
        due("fault(1)", t.fault(1), 0);
        t.tub();
        due("fault(0) without", t.fault(0), 0);
        due("fault(1) without", t.fault(1), -1);
    }

    @Says({"5: NONE for another what."})
    private static void anotherFault() {
        TubBites t = new TubBites();
        tape(t, "tub 7");
        t.tub();
        for (int what : beyond(0, 1)) {
            due("fault(" + what + ")", t.fault(what), -1);
        }
    }

    // Part 1 of the terms: the text

    @Says({"t1: A TUB is a text of at most 1,600 bytes"})
    private static void aTextOf1600Bytes() {
        String head = TUB + " ".repeat(1593 - TUB.length());
        due("its last byte counts", of(head + "draw 8;").about(6), 8);
        faulty(head + "draw 8", "$", 1);
        faulty(head + "draw 88", "", 2);
    }

    @Says({"t1: (empty at first): tub = {line}."})
    private static void noLineOrMany() {
        TubBites t = new TubBites();
        due("tub() of none", t.tub(), 0);
        due("fault(0)", t.fault(0), 0);
        due("no line but blanks", of(" \n\n ").about(0), 0);
        due("one line", of(TUB).about(0), 6);
        due("many lines", of(TUB + "draw 3;bite 2;rule a 1;rule b 2;").about(5), 2);
    }

    private static final String[] LINES = {
        "odds free 1 ;", "odds stalk 1 ;", "odds wall 1 ;", "odds ground 1 ;", "odds lean 1 ;", "rule a far ;",
        "apple a at 0 0 size 1 soft 1 ;", "apple a at 0 0 size 1 soft 1 stalk ;", "apple a at 0 0 size 1 soft 1 coin 1 ;",
        "apple a at 0 0 size 1 soft 1 stalk coin 1 ;", "bobber a at 0 0 reach 1 breath 1 mouth 1 ;", "draw 1 ;", "bite 1 ;"};

    @Says({"t1: line = tub N by N ; | odds (free | stalk | wall | ground | lean) e ; | rule NAME e ; "
        + "| apple NAME at N N size N soft N [stalk] [coin N] ; "
        + "| bobber NAME at N N reach N breath N mouth N [by NAME] ; | draw N ; | bite N ;."})
    private static void eachLineAsItStands() {
        for (String line : LINES) {
            of(TUB + line);
            of(TUB + line.replace(" ;", ";") + "\n");
        }
        of(TUB + "rule a 1 ;bobber a at 0 0 reach 1 breath 1 mouth 1 by a ;");
        faulty(TUB + APPLE + "coin 1 ", "stalk;", 2);
        faulty(TUB + APPLE + "stalk ", "stalk;", 2);
        faulty(TUB + APPLE + "coin 1 ", "coin 1;", 2);
        faulty(TUB + BOBBER, "a;", 2);
        faulty(TUB + "rule a 1;" + BOBBER + "by a ", "by a;", 2);
        faulty(TUB + "apple a at 0 0 ", "soft 1 size 1;", 2);
        faulty(TUB + "bobber a at 0 0 ", "breath 1 reach 1 mouth 1;", 2);
    }

    /** Behind which tokens of a line its text may end: none but the last one. */
    @Says({"t1: the end: the text's length)", "t1: FAULTS, the first by its place (bytes from 0;"})
    private static void aLineThatIsCut() {
        for (String line : LINES) {
            String[] tokens = line.split(" ");
            StringBuilder text = new StringBuilder(TUB);
            for (int i = 0; i + 1 < tokens.length; i++) {
                text.append(tokens[i]);
                faulty(text.toString(), 2, text.length());
                text.append(' ');
                faulty(text.toString(), 2, text.length());
                faulty(text + "\n \n", 2, text.length() + 3);
            }
        }
        for (String text : new String[] {"tub", "tub 2", "tub 2 by", "tub 2 by 2"}) {
            faulty(text, 2, text.length());
        }
        faulty(TUB + "bobber a at 0 0 reach 1 breath 1 mouth 1 by", "", 2);
    }

    @Says({"t1: 2 one that can't stand there"})
    private static void aTokenTwice() {
        for (String line : LINES) {
            String[] tokens = line.split(" ");
            StringBuilder text = new StringBuilder(TUB);
            for (int i = 0; i < tokens.length; i++) {
                text.append(tokens[i]).append(' ');
                boolean canStandThere = i + 1 < tokens.length && tokens[i].equals(tokens[i + 1])
                    || i == 1 && (line.startsWith("odds stalk") || line.startsWith("odds wall"));
                if (!canStandThere) {
                    faulty(text.toString(), String.join(" ", Arrays.copyOfRange(tokens, i, tokens.length)), 2);
                }
            }
        }
        faulty("", "by 2", 2);
        faulty("", "2", 2);
        faulty("", ";", 2);
        faulty("tub ", "by", 2);
        faulty("tub 2 ", "2", 2);
        faulty(TUB, "by", 2);
        faulty(TUB, "a 1;", 2);
        faulty(TUB, "size 1;", 2);
        faulty(TUB + "odds ", "a 1;", 2);
        for (String word : OWN_WORDS) {
            if (!" free stalk wall ground lean ".contains(" " + word + " ")) {
                faulty(TUB + "odds ", word + " 1;", 2);
            }
            if (!" odds rule apple bobber draw bite ".contains(" " + word + " ")) {
                faulty(TUB, word + " 1;", 2);
            }
        }
        faulty(TUB + "draw ", "a;", 2);
    }

    private static void value(String e, int odds) {
        due("odds by " + e, of("tub 1 by 1;odds free " + e + ";apple a at 0 0 size 50 soft 3 stalk;"
            + "bobber a at 0 0 reach 0 breath 7 mouth 4;").odds(0, 0, 0), odds);
    }

    @Says({"t1: e = both {or both}. both = one {and one}. one = not one | sum [(< | > | =) sum]. "
        + "sum = term {(+ | -) term}. term = unit {(* | / | %) unit}."})
    private static void whatBindsMore() {
        value("9+2*3", 15);
        value("20-8/4", 18);
        value("20-3-4", 13);
        value("60/5*2", 24);
        value("60/5/2", 6);
        value("29%10%4", 1);
        value("7*(1+1<1+2)", 7);
        value("7*(not 0<0)", 7);
        value("7*(not 1+1=2)", 0);
        value("7*(1 or 1 and 0)", 7);
        value("7*(0 and 0 or 1)", 7);
        value("7*(1 and not 0)", 7);
        value("7*(0 or 0 or 1)", 7);
        value("7*(1 and 1 and 0)", 0);
        value("7*(not not 1)", 7);
    }

    @Says({"t1: sum [(< | > | =) sum]."})
    private static void oneRelationAtMost() {
        for (char sign : new char[] {'<', '>', '='}) {
            of(TUB + "rule a 1" + sign + "2;");
            faulty(TUB + "rule a 1" + sign + "2", sign + "3;", 2);
            of(TUB + "rule a (1" + sign + "2)" + sign + "3;");
            faulty(TUB + "rule a 1" + sign, ";", 2);
            faulty(TUB + "rule a ", sign + "1;", 2);
        }
    }

    @Says({"t1: one = not one"})
    private static void notStandsAheadOfAOne() {
        of(TUB + "rule a not 1<2;");
        faulty(TUB + "rule a 1+", "not 2;", 2);
        faulty(TUB + "rule a 1<", "not 2;", 2);
        faulty(TUB + "rule a 2*", "not 2;", 2);
        faulty(TUB + "rule a 2 ", "not 2;", 2);
        faulty(TUB + "rule a not", ";", 2);
    }

    @Says({"t1: unit = N | size | soft | stalk | wall | far | tries | mouth | breath | kind | odds | ( e )."})
    private static void whatCanBeAUnit() {
        String units = " size soft stalk wall far tries mouth breath kind odds ";
        for (String word : OWN_WORDS) {
            if (units.contains(" " + word + " ")) {
                due("units of " + word, of(TUB + "rule a " + word + ";").about(12), 1);
            } else if (!word.equals("not")) {
                faulty(TUB + "rule a ", word + ";", 2);
            }
        }
        due("an N", of(TUB + "rule a 9999;").about(12), 1);
        due("( e )", of(TUB + "rule a (1 or 1);").about(12), 3);
        faulty(TUB + "rule a ", "a;", 2);
        faulty(TUB + "rule a (", ");", 2);
        faulty(TUB + "rule a (1", ";", 2);
        faulty(TUB + "rule a 1", ");", 2);
        faulty(TUB + "rule a ", ";", 2);
        faulty(TUB + "rule a ", "-1;", 2);
        faulty(TUB + "rule a 1 ", "1;", 2);
        faulty(TUB + "rule a 1+", ";", 2);
        faulty(TUB + "rule a 1 or", ";", 2);
        faulty(TUB + "rule a 1 and", ";", 2);
        for (String open : new String[] {"(", "(1+", "(1 or ", "(not ", "((1)*", "1+(2<"}) {
            faulty(TUB + "rule a " + open, ";rule b 1;", 2);
        }
    }

    // Tokens

    @Says({"t1: words (a .. z, 8 at most),", "t1: a longer word,"})
    private static void wordsOfEightAtMost() {
        due("8", of(TUB + "rule abcdefgh 1;").about(5), 1);
        faulty(TUB + "rule ", "abcdefghi 1;", 1);
        faulty(TUB + "rule ", "z".repeat(9), 1);
        faulty(TUB + "rule ", "a".repeat(100) + " 1;", 1);
        faulty("", "abcdefghi", 1);
        // a word that begins as one of the text's own
        faulty("", "tubtubtub 1", 1);
        due("a and z", of(TUB + "rule az 1;rule za 1;").about(5), 2);
    }

    @Says({"t1: N (1 to 4 digits),", "t1: more digits,"})
    private static void numbersOfFourDigitsAtMost() {
        due("4 digits", of("tub 0006 by 0001;").about(0), 6);
        due("4 digits", of(TUB + "odds free 9999;").about(12), 1);
        faulty("tub ", "00006 by 1;", 1);
        faulty(TUB + "odds free ", "10000;", 1);
        faulty(TUB + "odds free ", "4294967297;", 1);
        faulty(TUB + "draw ", "00000;", 1);
    }

    @Says({"t1: signs ; ( ) < > = + - * / %;", "t1: (what is none of these,", "t1: no TOKEN, at its first byte)."})
    private static void noOtherSigns() {
        of(TUB + "rule a (1+2-3)*4/5%6;rule b 1<2;rule c 1>2;rule d 1=2;");
        for (int sign = 0; sign < 256; sign++) {
            boolean isToken = sign >= 'a' && sign <= 'z' || sign >= '0' && sign <= '9' || ";()<>=+-*/% \n".indexOf(sign) >= 0;
            if (!isToken) {
                faulty(TUB, (char) sign + "rule a 1;", 1);
                faulty(TUB + "rule ", (char) sign + " 1;", 1);
                faulty(TUB + "rule a", (char) sign + " 1;", 1);
            }
        }
    }

    @Says({"t1: blanks (32, 10) part them or not;"})
    private static void blanks() {
        due("32 and 10", of("\n tub\n6 \n by  5\n;\n\n").about(1), 5);
        due("none", of("tub6 by5;apple a at0 0 size1 soft1 stalk coin2;bobber b at0 0 reach1 breath1 mouth1;draw1;bite1;").about(4), 1);
        for (int other : new int[] {0, 9, 11, 12, 13, 31, 33, 160}) {
            faulty("tub", (char) other + "6 by 5;", 1);
        }
        faulty(TUB, "dr aw 1;", 2);
        faulty(TUB + "draw 1 ", "1;", 2);
    }

    @Says({"t1: each is as long as can be;"})
    private static void asLongAsCanBe() {
        faulty("", "tubs 6 by 5;", 2);
        faulty(TUB + "rule a 1 ", "oror 1;", 2);
        faulty(TUB + "rule a ", "notfar;", 2);
        faulty("tub ", "66 by 5;", 4);
        due("a word ends ahead of a digit", of("tub6 by5;").about(0), 6);
        faulty(TUB + "draw ", "1000;", 4);
    }

    @Says({"t1: no letter directly behind an N", "t1: a number with a letter behind it:"})
    private static void noLetterBehindANumber() {
        faulty("tub ", "6by 5;", 1);
        faulty(TUB + "rule a ", "1and 1;", 1);
        faulty(TUB + "rule a ", "1a;", 1);
        faulty(TUB + "rule a ", "1z;", 1);
        faulty(TUB + "rule a ", "1234z;", 1);
        of(TUB + "rule a 1 and 1;");
        of(TUB + "rule a (1)and 1;");
        TubBites t = new TubBites();
        tape(t, TUB + "draw 7x");
        t.end(TUB.length() + 6);
        due("the letter was cut off", t.tub(), -1);
        due("fault(0)", t.fault(0), 2);
        due("fault(1)", t.fault(1), TUB.length() + 6);
    }

    @Says({"t1: TOKENS:", "t1: Words that stand for themselves here are no NAMES."})
    private static void ownWordsAreNoNames() {
        for (String word : OWN_WORDS) {
            faulty(TUB + "rule ", word + " 1;", 2);
            faulty(TUB + "apple ", word + " at 0 0 size 1 soft 1;", 2);
            faulty(TUB + "bobber ", word + " at 0 0 reach 1 breath 1 mouth 1;", 2);
            faulty(TUB + "rule a 1;" + BOBBER + "by ", word + ";", 2);
            due("a longer one is a name", of(TUB + "rule x" + word + " 1;").about(5), 1);
        }
        faulty(TUB + "rule ", "1 1;", 2);
    }

    // What a tub has

    private static void between(String head, int least, int most, String tail) {
        of(head + least + tail);
        of(head + most + tail);
        faulty(head, most + 1 + tail, 4);
        faulty(head, 9999 + tail, 4);
        if (least > 0) {
            faulty(head, least - 1 + tail, 4);
        }
    }

    @Says({"t1: tub (across 1 .. 6, up 1 .. 6: CELLS by x, y from 0)", "t1: 4 a number that can't be;"})
    private static void acrossAndUp() {
        between("tub ", 1, 6, " by 3;");
        between("tub 3 by ", 1, 6, ";");
        for (int across = 1; across <= 6; across++) {
            for (int up = 1; up <= 6; up++) {
                String tub = "tub " + across + " by " + up + ";";
                due("about(0)", of(tub).about(0), across);
                due("about(1)", of(tub).about(1), up);
                between(tub + "apple a at ", 0, across - 1, " 0 size 1 soft 0;");
                between(tub + "apple a at 0 ", 0, up - 1, " size 1 soft 0;");
            }
        }
    }

    @Says({"t1: comes first, once, other lines behind it alone"})
    private static void tubComesFirstOnce() {
        faulty(TUB, TUB, 2);
        faulty(TUB + "draw 1;", TUB, 2);
        faulty(TUB, "tub", 2);
        for (String line : LINES) {
            if (!line.startsWith("odds")) {
                faulty("", line, 2);
                faulty("", line + TUB, 2);
            }
        }
    }

    @Says({"t1: ahead of its time: at the line's first word,"})
    private static void linesAheadOfTheTub() {
        for (String first : new String[] {"rule", "apple", "bobber", "draw", "bite"}) {
            faulty(" ", first, 2);
            faulty("\n", first + " tub 6 by 5;", 2);
        }
    }

    @Says({"t1: (a text may be empty: no CELLS)."})
    private static void anEmptyText() {
        TubBites t = of(TUB + apple('a', 0, 0));
        due("tub()", t.tub(), 0);
        due("fault(0)", t.fault(0), 0);
        due("about(0)", t.about(0), 0);
        due("about(1)", t.about(1), 0);
        due("waves(0, 0, 0)", t.waves(0, 0, 0), -2);
        due("wave(0)", t.wave(0), 0);
    }

    @Says({"t1: Then each odds once", "t1: a second time,", "t1: odds at its KIND;"})
    private static void eachOddsOnce() {
        for (String kind : new String[] {"free", "stalk", "wall", "ground", "lean"}) {
            faulty(TUB + "odds " + kind + " 1;rule a 2;odds ", kind + " 1;", 2);
            faulty(TUB + "odds " + kind + " 1;odds ", kind, 2);
        }
        of(TUB + "odds lean 1;odds ground 1;odds wall 1;odds stalk 1;odds free 1;");
    }

    @Says({"t1: (50 if not told),"})
    private static void untoldOddsAre50() {
        TubBites t = of("tub 3 by 1;odds ground 7;apple a at 1 0 size 1 soft 0 stalk;apple b at 2 0 size 1 soft 0;"
            + bobber('a', 0, 0, 1, 3));
        int[] odds = {50, 50, 50, 7, 50};
        for (int kind = 0; kind < 5; kind++) {
            due("odds(0, 0, " + kind + ")", t.odds(0, 0, kind), odds[kind]);
        }
    }

    @Says({"t1: draw (0 .. 999; 0),"})
    private static void draws() {
        between(TUB + "draw ", 0, 999, ";");
        due("not told", of(TUB).about(6), 0);
        due("0", of(TUB + "draw 0;").about(6), 0);
        due("999", of(TUB + "draw 999;").about(6), 999);
    }

    private static int sizeBehindAMiss(String bite, int soft) {
        TubBites t = of("tub 1 by 1;odds free 0;" + bite + "apple a at 0 0 size 9 soft " + soft + ";" + bobber('a', 0, 0, 0, 0));
        t.go(0, 0, 0);
        return t.apple(0, 4);
    }

    @Says({"t1: bite (0 .. 9; 10)"})
    private static void bites() {
        between(TUB + "bite ", 0, 9, ";");
        due("not told: no piece of the softest", sizeBehindAMiss("", 9), 9);
        due("9: a piece of the softest", sizeBehindAMiss("bite 9;", 9), 8);
        due("0: a piece of the hardest", sizeBehindAMiss("bite 0;", 0), 8);
    }

    @Says({"t1: once each,"})
    private static void drawAndBiteOnceEach() {
        faulty(TUB + "draw 1;bite 2;", "draw 1;", 2);
        faulty(TUB + "draw 0;", "draw", 2);
        faulty(TUB + "bite 1;draw 2;", "bite 1;", 2);
        faulty(TUB + "bite 0;", "bite", 2);
        of(TUB + "bite 1;draw 2;");
        TubBites t = new TubBites();
        for (int time = 0; time < 3; time++) {
            tape(t, TUB + "bite 1;draw 2;");
            due("once in each text", t.tub(), 0);
        }
    }

    @Says({"t1: 6 RULES,", "t1: (one of a sort too many,"})
    private static void sixRules() {
        String six = TUB + numbered("rule r# 1;", 6);
        due("6", of(six).about(5), 6);
        faulty(six, "rule rg 1;", 2);
        faulty(six, "rule ra 1;", 2);
        faulty(six + apple('a', 0, 0), "rule", 2);
    }

    @Says({"t1: 10 APPLES"})
    private static void tenApples() {
        String ten = TUB + numbered("apple a# at @ size 1 soft 0;", 10);
        TubBites t = of(ten);
        due("10", t.about(2), 10);
        due("the last one's x", t.apple(9, 0), 3);
        due("the last one's y", t.apple(9, 1), 1);
        due("no eleventh", t.apple(10, 0), -2);
        faulty(ten, "apple ak at 5 4 size 1 soft 0;", 2);
        faulty(ten, "apple aa at 0 0 size 1 soft 0;", 2);
        faulty(ten + "draw 1;", "apple", 2);
    }

    @Says({"t1: (size 1 .. 99,"})
    private static void sizes() {
        between(TUB + "apple a at 0 0 size ", 1, 99, " soft 1;");
        due("99", of(TUB + "apple a at 0 0 size 99 soft 1;").apple(0, 4), 99);
        due("1", of(TUB + "apple a at 0 0 size 1 soft 1;").apple(0, 4), 1);
    }

    @Says({"t1: soft 0 .. 9,"})
    private static void softs() {
        between(TUB + "apple a at 0 0 size 1 soft ", 0, 9, ";");
        for (int soft = 0; soft <= 9; soft += 9) {
            due("soft", of(TUB + "odds free soft;apple a at 0 0 size 1 soft " + soft + ";" + bobber('a', 0, 0, 0, 0)).odds(0, 0, 0), soft);
        }
    }

    @Says({"t1: coin 0 .. 99; 1;"})
    private static void coins() {
        between(TUB + APPLE + "coin ", 0, 99, ";");
        between(TUB + APPLE + "stalk coin ", 0, 99, ";");
        TubBites t = of(TUB + "apple a at 0 0 size 1 soft 1;apple b at 1 0 size 1 soft 1 coin 99;");
        due("1 if not told", t.coin(0, 0), 1);
        due("of 100", t.coin(0, 1), 100);
        due("99", t.coin(1, 0), 99);
        due("0", of(TUB + APPLE + "coin 0;").coin(0, 0), 0);
    }

    @Says({"t1: no two in one CELL),", "t1: a CELL that has an APPLE already (at its second N);"})
    private static void noTwoApplesInACell() {
        String one = TUB + apple('a', 4, 3);
        faulty(one + "apple b at 4 ", "3 size 1 soft 1;", 3);
        faulty(one + "apple b at 4 ", "3", 3);
        faulty(one + "apple b at 0004 ", "003;", 3);
        due("one further", of(one + "apple b at 3 4 size 1 soft 1;apple c at 4 4 size 1 soft 1;apple d at 3 3 size 1 soft 1;").about(2), 4);
        faulty(one + "apple b at 0 0 size 1 soft 1;apple c at 0 ", "0 size", 3);
        due("bobbers in one cell, an apple in it, too", of(one + bobber('a', 4, 3, 1, 1) + bobber('b', 4, 3, 1, 1)).about(4), 2);
    }

    @Says({"t1: 4 BOBBERS"})
    private static void fourBobbers() {
        String four = TUB + numbered("bobber b# at @ reach 1 breath 1 mouth 1;", 4);
        TubBites t = of(four);
        due("4", t.about(4), 4);
        due("the last one", t.bobber(3, 0), 1);
        due("no fifth", t.bobber(4, 0), -1);
        faulty(four, "bobber be at 0 0 reach 1 breath 1 mouth 1;", 2);
        faulty(four, "bobber ba at 0 0 reach 1 breath 1 mouth 1;", 2);
        faulty(four + "draw 1;", "bobber", 2);
    }

    @Says({"t1: (CELL;"})
    private static void bobbersAreInACell() {
        between(TUB + "bobber a at ", 0, 5, " 0 reach 1 breath 1 mouth 1;");
        between(TUB + "bobber a at 0 ", 0, 4, " reach 1 breath 1 mouth 1;");
        due("in the middle, too", of(TUB + bobber('a', 3, 2, 1, 1)).about(4), 1);
    }

    @Says({"t1: reach 0 .. 5,"})
    private static void reaches() {
        between(TUB + "bobber a at 0 0 reach ", 0, 5, " breath 1 mouth 1;");
        due("reach 5", of(TUB + apple('a', 5, 0) + bobber('a', 0, 0, 5, 0)).odds(0, 0, 0), 50);
        due("reach 0", of(TUB + apple('a', 0, 0) + bobber('a', 0, 0, 0, 0)).odds(0, 0, 0), 50);
    }

    @Says({"t1: breath 0 .. 20,"})
    private static void breaths() {
        between(TUB + "bobber a at 0 0 reach 1 breath ", 0, 20, " mouth 1;");
        due("20", of(TUB + bobber('a', 0, 0, 0, 20)).bobber(0, 0), 20);
        due("0", of(TUB + bobber('a', 0, 0, 0, 0)).bobber(0, 0), 0);
    }

    @Says({"t1: mouth 0 .. 9;"})
    private static void mouths() {
        between(TUB + "bobber a at 0 0 reach 1 breath 1 mouth ", 0, 9, ";");
        for (int mouth = 0; mouth <= 9; mouth += 9) {
            due("mouth", of(TUB + "odds free mouth;" + apple('a', 0, 0) + "bobber a at 0 0 reach 0 breath 0 mouth " + mouth + ";")
                .odds(0, 0, 0), mouth);
        }
    }

    @Says({"t1: a RULE told ahead,", "t1: 5 a NAME that no RULE has."})
    private static void aRuleToldAhead() {
        String rules = TUB + "rule a 1;rule b kind;";
        due("the second one", of(rules + apple('a', 0, 0) + BOBBER.replace("breath 1", "breath 3") + "by b;").chooses(0), 3);
        faulty(rules + BOBBER + "by ", "c;", 5);
        faulty(rules + BOBBER + "by ", "c;rule c 1;", 5);
        faulty(TUB + BOBBER + "by ", "a;", 5);
        faulty(rules + apple('c', 0, 0) + BOBBER + "by ", "c", 5);
        faulty(rules + "bobber d at 0 0 reach 1 breath 1 mouth 1;bobber e at 0 0 reach 1 breath 1 mouth 1 by ", "d;", 5);
    }

    @Says({"t1: else the first one),"})
    private static void elseTheFirstRule() {
        String apples = "apple a at 0 0 size 1 soft 0;apple b at 1 0 size 2 soft 0;";
        due("told ahead", of(TUB + "rule a size;rule b 0-size;" + apples + bobber('a', 0, 0, 1, 0)).chooses(0), 10);
        due("told behind", of(TUB + bobber('a', 0, 0, 1, 0) + "rule a size;rule b 0-size;" + apples).chooses(0), 10);
    }

    @Says({"t1: numbered as told, each sort by itself;"})
    private static void numberedAsTold() {
        TubBites t = of(TUB + "bobber z at 0 0 reach 0 breath 4 mouth 0;apple z at 3 0 size 5 soft 0;rule z 1;"
            + "apple a at 2 0 size 6 soft 0;bobber a at 0 0 reach 0 breath 5 mouth 0;");
        due("apple(0, 4)", t.apple(0, 4), 5);
        due("apple(1, 4)", t.apple(1, 4), 6);
        due("bobber(0, 0)", t.bobber(0, 0), 4);
        due("bobber(1, 0)", t.bobber(1, 0), 5);
    }

    @Says({"t1: 90 units in all,", "t1: a unit too many,"})
    private static void ninetyUnitsInAll() {
        String thirty = many("1", 30, "+") + ";";
        String ninety = TUB + "odds free " + thirty + "rule a " + thirty + "odds lean " + thirty;
        due("90", of(ninety).about(12), 90);
        faulty(ninety + "rule b ", "1;", 2);
        faulty(ninety + "rule b not ", "far;", 2);
        faulty(ninety + "rule b ", "(1);", 2);
        String less = TUB + "odds free " + thirty + "rule a " + thirty + "odds lean " + many("1", 29, "+") + ";";
        due("89 and 1", of(less + "odds wall 1;").about(12), 90);
        faulty(less + "odds wall 1+", "2;", 2);
        faulty(less + "odds wall (", "2);", 2);
    }

    @Says({"t1: 30 in one e", "t1: at its first TOKEN,"})
    private static void thirtyUnitsInOne() {
        String head = TUB + "rule a ";
        due("30", of(head + many("far", 30, "*") + ";").about(12), 30);
        faulty(head + many("far", 30, "*") + "*", "far;", 2);
        faulty(head + many("far", 30, "*") + " or not ", "far;", 2);
        faulty(head + many("far", 30, "*") + "*", "(far);", 2);
        due("15 ( e )", of(head + many("(far)", 15, "*") + ";").about(12), 30);
        faulty(head + many("(far)", 15, "*") + "*", "far;", 2);
        faulty(head + many("far", 29, "*") + "*(", "far);", 2);
        due("30 in each", of(head + many("1", 30, "+") + ";odds free " + many("1", 30, "+") + ";").about(12), 60);
    }

    @Says({"t1: (a unit ( e ), or a one behind not, within 6 others at most).", "t1: what is within 7 others:", "t1: or the not);"})
    private static void withinSixOthers() {
        String head = TUB + "rule a ";
        due("7 ( e )", of(head + "(((((((1)))))));").about(12), 8);
        faulty(head + "(((((((", "(1))))))));", 2);
        faulty(head + "(((((((", "(", 2);
        of(head + many("not ", 7, "") + "1;");
        faulty(head + many("not ", 7, ""), "not 1;", 2);
        faulty(head + many("not ", 7, ""), "(1);", 2);
        faulty(head + "(((((((", "not 1", 2);
        of(head + "not (not (not (not 1)));");
        faulty(head + "not (not (not (not ", "(1))));", 2);
        due("a plain unit is not counted", of(head + "(((((((far)))))));").about(12), 8);
        due("side by side", of(head + "(((1)))*(((1)))*(((1)));").about(12), 12);
        of(head + many("not " + many("not ", 6, "") + "1", 20, " or ") + ";");
    }

    // Faults

    @Says({"t1: FAULTS, the first by its place"})
    private static void theFirstByItsPlace() {
        faulty("tub ", "7 by $;tub rule rule", 4);
        faulty(TUB + "rule a 1<2", "<3;$ rule a 1;", 2);
        faulty(TUB + "rule a 1;rule ", "a 1 1;bobber", 3);
        faulty(TUB + BOBBER + "by ", "z;tub;", 5);
        faulty(TUB + "draw 1", "$;draw 1000;", 1);
        faulty(TUB + "draw ", "1000$", 4);
        faulty("\n \n", "$", 1);
    }

    @Says({"t1: at one place the least:", "t1: 1 no TOKEN;"})
    private static void theLeastAtOnePlace() {
        faulty(TUB + "rule a " + many("1", 30, "+") + "+", "12345;", 1);
        faulty(TUB + "rule a " + many("1", 30, "+") + "+", "$;", 1);
        faulty(TUB + "rule a (((((((", "[1", 1);
        faulty(TUB, "abcdefghi", 1);
        faulty("", "abcdefghi", 1);
        faulty(TUB + "odds free 1;odds ", "abcdefghi", 1);
        faulty(TUB + "draw ", "10000;", 1);
        faulty(TUB + "draw ", "1000x;", 1);
        faulty(TUB + apple('a', 2, 3) + "apple b at 2 ", "3x", 1);
        faulty(TUB + apple('a', 2, 3) + "apple b at 2 ", "00003", 1);
        faulty(TUB + BOBBER + "by ", "abcdefghi;", 1);
        faulty(TUB + BOBBER + "by ", "by;", 2);
        faulty(TUB + numbered("rule r# 1;", 6), "rule ra 1;", 2);
        faulty(TUB + "draw 1", ":", 1);
    }

    @Says({"t1: 3 a NAME told already (of its sort),"})
    private static void aNameToldAlready() {
        faulty(TUB + "rule a 1;rule b 1;rule ", "a 1;", 3);
        faulty(TUB + "rule a 1;rule b 1;rule ", "b", 3);
        faulty(TUB + apple('a', 0, 0) + "apple ", "a at 1 1 size 1 soft 1;", 3);
        faulty(TUB + numbered("apple a# at @ size 1 soft 1;", 9) + "apple ", "ai at 5 4 size 1 soft 1;", 3);
        faulty(TUB + bobber('a', 0, 0, 1, 1) + "bobber ", "a at 1 1 reach 1 breath 1 mouth 1;", 3);
        due("of another sort", of(TUB + "rule a 1;" + apple('a', 0, 0) + bobber('a', 0, 0, 1, 1)).about(2), 1);
        due("a longer one", of(TUB + "rule a 1;rule aa 1;rule aaa 1;rule abcdefgh 1;rule bcdefgh 1;").about(5), 5);
        TubBites t = of(TUB + "rule a 1;" + apple('a', 0, 0));
        tape(t, TUB + "rule a 1;" + apple('a', 0, 0));
        due("told in a text before", t.tub(), 1);
    }
}
