/**
 * Sentences of part 3 of the terms and of the promises 16 to 19, 22 to 26, 28 to 31: what is best, played against
 * each other, looked for. Draws from seed 0 on are 7, 79, 39, 46, 9, 53, 77, 52, 31, 67.
 */
public final class SearchSentencesTests extends Sentences {
    private static final int FREE = 0;
    private static final int GROUND = 3;
    private static final String ONE_CELL = "tub 1 by 1;";
    private static final String MISS = "odds free 0;odds stalk 0;odds wall 0;odds ground 0;odds lean 0;";
    private static final String GET = "odds free 100;odds stalk 100;odds wall 100;odds ground 100;odds lean 100;";

    public static void main(String[] asked) throws Exception {
        run(SearchSentencesTests.class, asked);
    }

    @Says({"t3: (Below all is asked from what is now, and nothing is done.)"})
    private static void nothingIsDone() {
        TubBites t = of("tub 4 by 2;draw 31;bite 0;rule a odds;rule b 0-far;" + "apple a at 0 0 size 3 soft 1;"
            + apple('b', 1, 0) + apple('c', 2, 0) + apple('d', 3, 0) + bobber('a', 0, 0, 2, 3) + bobber('b', 3, 1, 2, 1));
        t.go(0, 1, GROUND);
        t.wave(2);
        t.undo();
        long before = stateOf(t);
        for (int what = 0; what < 3; what++) {
            t.best(0, 4, what);
            t.seat(1, 10, what);
            t.provide(9, what);
            t.fill(0, 99, what);
            due("as it was behind " + what, stateOf(t), before);
        }
        t.match(0, 1);
        t.reply(0);
        t.rests();
        t.order(10);
        due("as it was", stateOf(t), before);
        t.drives(0, 1, 1);
        t.gone(15);
        t.waves(2, 3, 1);
        t.easier(0, 1);
        t.coin(0, 0);
        t.chooses(0);
        due("as it was", stateOf(t), before);
        due("redo()", t.redo(), true);
    }

    private static long stateOf(TubBites t) {
        long sum = 0;
        for (int what = 0; what <= 12; what++) {
            sum = 31 * sum + t.about(what);
        }
        for (int apple = 0; apple < t.about(2); apple++) {
            for (int what = 0; what < 5; what++) {
                sum = 31 * sum + t.apple(apple, what);
            }
        }
        for (int bobber = 0; bobber < t.about(4); bobber++) {
            for (int what = 0; what < 3; what++) {
                sum = 31 * sum + t.bobber(bobber, what);
                for (int kind = 0; kind < 5; kind++) {
                    sum = 31 * sum + t.record(bobber, kind, what);
                }
            }
        }
        return sum;
    }

    // Promise 16

    @Says({"t3: BEST alone in n SECONDS (0 .. 8): what one BOBBER can get, in millionths of an APPLE:", "16: BEST what 0: in millionths,",
        "t3: together, cut to a whole one;"})
    private static void noSecondsToEight() {
        int[] due = {0, 500000, 750000, 875000, 937500, 968750, 984375, 992187, 996093};
        TubBites t = of(ONE_CELL + apple('a', 0, 0) + bobber('a', 0, 0, 0, 0));
        for (int n = 0; n <= 8; n++) {
            due("best(0, " + n + ", 0)", t.best(0, n, 0), due[n]);
        }
        int[] cut = {0, 330000, 551100, 699237, 798488, 864986};
        TubBites third = of(ONE_CELL + "odds free 33;" + apple('a', 0, 0) + bobber('a', 0, 0, 0, 0));
        for (int n = 0; n <= 5; n++) {
            due("best(0, " + n + ", 0) by 33", third.best(0, n, 0), cut[n]);
        }
    }

    @Says({"t3: of a TRY for which there is time"})
    private static void forWhichThereIsTime() {
        int[] seconds = {1, 1, 2, 3, 1};
        String[] kinds = {"free", "stalk", "wall", "ground", "lean"};
        for (int kind = 0; kind < 5; kind++) {
            TubBites t = of("tub 3 by 1;" + MISS.replace(kinds[kind] + " 0", kinds[kind] + " 100") + "apple a at 1 0 size 9 soft 0 stalk;"
                + apple('b', 2, 0) + bobber('a', 0, 0, 1, 3));
            int n = seconds[kind];
            due("a second less by " + kind, t.best(0, n - 1, 0), 0);
            due("a second less by " + kind, t.best(0, n - 1, 1), -1);
            due("just time by " + kind, t.best(0, n, 0), 1000000);
            due("just time by " + kind, t.best(0, n, 1), kind);
        }
    }

    @Says({"t3: ODDS hundredths of 1,000,000 and BEST behind it GOT, and all other hundredths of BEST behind it MISSED"})
    private static void hundredthsOfBoth() {
        TubBites t = of("tub 2 by 1;odds free 30+30*(size=8);apple a at 0 0 size 8 soft 0;" + apple('b', 1, 0) + bobber('a', 0, 0, 1, 0));
        due("the one of 60", t.best(0, 1, 0), 600000);
        // 60: 1 and then 30 hundredths, 40: then 60 hundredths
        due("and then", t.best(0, 2, 0), 600000 + 180000 + 240000);
        due("by the one of 60 first", t.best(0, 2, 1), 0);
        TubBites sure = of("tub 2 by 1;" + GET + apple('a', 0, 0) + apple('b', 1, 0) + bobber('a', 0, 0, 1, 0));
        due("both for sure", sure.best(0, 2, 0), 2000000);
        due("no third", sure.best(0, 8, 0), 2000000);
    }

    @Says({"t3: what one BOBBER can get,"})
    private static void bestForEachBobber() {
        TubBites t = of("tub 3 by 1;odds free 10*mouth;" + apple('a', 0, 0) + apple('b', 1, 0) + apple('c', 2, 0)
            + "bobber a at 0 0 reach 0 breath 0 mouth 3;bobber b at 2 0 reach 0 breath 0 mouth 5;bobber c at 1 0 reach 0 breath 0 mouth 0;");
        int[] most = {300000, 500000, 0};
        int[] first = {0, 20, -1};
        for (int bobber = 0; bobber < 3; bobber++) {
            due("best(" + bobber + ", 1, 0)", t.best(bobber, 1, 0), most[bobber]);
            due("best(" + bobber + ", 1, 1)", t.best(bobber, 1, 1), first[bobber]);
        }
    }

    @Says({"t3: (PIECE, PUSH and all;"})
    private static void pieceAndPush() {
        TubBites piece = of(ONE_CELL + "bite 0;apple a at 0 0 size 2 soft 0;" + bobber('a', 0, 0, 0, 0));
        due("two bites", piece.best(0, 2, 0), 750000);
        due("no third", piece.best(0, 3, 0), 750000);
        TubBites push = of("tub 3 by 1;" + apple('a', 0, 0).replace("0 0", "1 0") + bobber('a', 0, 0, 1, 0));
        due("pushed out of reach", push.best(0, 3, 0), 500000);
        TubBites tries = of(ONE_CELL + "odds free 50-20*tries;" + apple('a', 0, 0) + bobber('a', 0, 0, 0, 0));
        due("tries count", tries.best(0, 3, 0), 500000 + 150000 + 35000);
        TubBites breath = of(ONE_CELL + "odds wall 20*breath;odds free 0;odds ground 0;" + apple('a', 0, 0) + bobber('a', 0, 0, 0, 2));
        due("breath counts", breath.best(0, 4, 0), 400000 + 120000);
    }

    @Says({"t3: BEST behind BREATHING, if there is time and he has not all his breath;",
        "16: 1: 10 * the APPLE and the KIND that is first (NONE: he BREATHES, or nothing), 2: 1 if he BREATHES first, else 0;"})
    private static void behindBreathing() {
        TubBites deep = of(ONE_CELL + "odds free 0;odds wall 0;odds ground 50;draw 71;" + apple('a', 0, 0) + bobber('a', 0, 0, 0, 3));
        due("with all his breath", deep.best(0, 3, 1), 3);
        due("with all his breath", deep.best(0, 3, 2), 0);
        due("draw 79", deep.go(0, 0, GROUND), 0);
        due("no time for both", deep.best(0, 4, 0), 0);
        due("so nothing", deep.best(0, 4, 1), -1);
        due("nor breath", deep.best(0, 4, 2), 0);
        due("just time", deep.best(0, 5, 0), 500000);
        due("he breathes", deep.best(0, 5, 1), -1);
        due("he breathes", deep.best(0, 5, 2), 1);
        // a breath of 2 seconds is too long for 1, though then there is a try
        TubBites soon = of(ONE_CELL + "odds free 5*breath;odds wall 0;odds ground 0;draw 71;" + apple('a', 0, 0) + bobber('a', 0, 0, 0, 4));
        due("draw 79", soon.go(0, 0, GROUND), 0);
        due("breath 1", soon.best(0, 1, 0), 50000);
        due("two tries", soon.best(0, 2, 0), 97500);
        due("he breathes, then a try", soon.best(0, 3, 0), 200000);
        due("he breathes first", soon.best(0, 3, 2), 1);
        due("not first", soon.best(0, 2, 2), 0);
    }

    @Says({"t3: 0. The greatest; of like ones the first (TRIES by APPLE, KIND, then BREATHING;"})
    private static void ofLikeWaysTheFirst() {
        TubBites t = of("tub 2 by 1;odds stalk 50;apple a at 1 0 size 9 soft 0 stalk;" + apple('b', 0, 0) + bobber('a', 0, 0, 1, 0));
        due("the first apple", t.best(0, 1, 1), 0);
        TubBites kinds = of(ONE_CELL + "odds free 40;odds stalk 60;odds wall 60;odds ground 60;apple a at 0 0 size 9 soft 0 stalk;"
            + bobber('a', 0, 0, 0, 3));
        due("the first kind", kinds.best(0, 1, 1), 1);
        due("the greatest", kinds.best(0, 1, 0), 600000);
        TubBites second = of("tub 2 by 1;odds free 8*size;apple a at 1 0 size 1 soft 0;" + apple('b', 0, 0) + bobber('a', 0, 0, 1, 0));
        due("the greatest is the second apple", second.best(0, 1, 1), 10);
        // a miss by the ground, then 50 hundredths at once or behind a breath
        TubBites breath = of("tub 2 by 1;odds free 50*(tries=0);odds ground 0;odds wall 0;odds lean 0;" + apple('a', 0, 0) + apple('b', 1, 0)
            + bobber('a', 0, 0, 1, 3));
        due("go", breath.go(0, 1, GROUND), 0);
        due("at once or behind a breath", breath.best(0, 3, 0), 500000);
        due("the try comes first", breath.best(0, 3, 1), 0);
        due("the try comes first", breath.best(0, 3, 2), 0);
    }

    @Says({"t3: nothing, if it is 0).", "16: (NONE: he BREATHES, or nothing)"})
    private static void nothingIfItIsNought() {
        TubBites t = of(ONE_CELL + MISS + apple('a', 0, 0) + bobber('a', 0, 0, 0, 3));
        t.go(0, 0, GROUND);
        for (int n = 0; n <= 8; n++) {
            due("best(0, " + n + ", 0)", t.best(0, n, 0), 0);
            due("best(0, " + n + ", 1)", t.best(0, n, 1), -1);
            due("best(0, " + n + ", 2)", t.best(0, n, 2), 0);
        }
        TubBites none = of(ONE_CELL + bobber('a', 0, 0, 0, 3));
        due("no apples", none.best(0, 8, 0), 0);
        due("no apples", none.best(0, 8, 1), -1);
        due("no apples", none.best(0, 8, 2), 0);
    }

    /** In so many seconds just 20,000 times something is to be looked at, behind a miss at the wall. */
    private static final String[] LOOKS_20000 = {
        "4tub 3 by 3;odds wall 0;apple a at 1 2 size 4 soft 0;apple b at 1 1 size 4 soft 0 stalk;apple c at 0 0 size 3 soft 0;"
            + "apple d at 1 0 size 1 soft 0 stalk;bobber a at 2 0 reach 4 breath 5 mouth 0;",
        "5tub 4 by 2;odds wall 0;bite 0;apple a at 1 1 size 2 soft 0 stalk;apple b at 3 1 size 3 soft 0;apple c at 0 0 size 4 soft 0;"
            + "bobber a at 0 0 reach 3 breath 5 mouth 0;",
        "8tub 3 by 3;odds wall 0;bite 0;apple a at 1 2 size 4 soft 0;apple b at 1 1 size 1 soft 0 stalk;"
            + "bobber a at 1 1 reach 4 breath 2 mouth 0;"};
    /** In so many seconds it is just once more. */
    private static final String[] LOOKS_20001 = {
        "4tub 5 by 2;apple a at 3 0 size 4 soft 0;apple b at 2 1 size 4 soft 0 stalk;apple c at 1 0 size 4 soft 0 stalk;"
            + "apple d at 3 1 size 1 soft 0;bobber a at 4 1 reach 5 breath 6 mouth 0;",
        "4tub 4 by 1;bite 0;apple a at 2 0 size 2 soft 0;apple b at 0 0 size 1 soft 0;apple c at 1 0 size 1 soft 0 stalk;"
            + "apple d at 3 0 size 1 soft 0 stalk;bobber a at 3 0 reach 4 breath 6 mouth 0;",
        "8tub 5 by 3;bite 0;apple a at 3 0 size 2 soft 0;apple b at 1 1 size 1 soft 0;apple c at 2 1 size 1 soft 0;"
            + "bobber a at 0 1 reach 3 breath 3 mouth 0;"};

    @Says({"t3: SPENT, if more than 20,000 times something is to be looked at"})
    private static void notSpentBy20000() {
        for (String told : LOOKS_20000) {
            int n = told.charAt(0) - '0';
            TubBites t = of(told.substring(1));
            due("a miss at the wall", t.go(0, 0, 2), 0);
            due("best(0, " + n + ", 0) of " + told, t.best(0, n, 0) > 0, true);
            due("best(0, " + n + ", 1) of " + told, t.best(0, n, 1) >= -1, true);
            due("best(0, " + n + ", 2) of " + told, t.best(0, n, 2) >= 0, true);
        }
    }

    @Says({"t3: SPENT, if more than 20,000 times something is to be looked at (each time, with 0 SECONDS too).", "16: -2 if SPENT."})
    private static void spentBy20001() {
        for (String told : LOOKS_20001) {
            int n = told.charAt(0) - '0';
            TubBites t = of(told.substring(1));
            int less = t.best(0, n - 1, 0);
            due("a second less", less > 0, true);
            for (int what = 0; what < 3; what++) {
                due("best(0, " + n + ", " + what + ") of " + told, t.best(0, n, what), -2);
                due("each call looks anew", t.best(0, n - 1, 0), less);
            }
            due("another what", t.best(0, n, 3), -1);
            due("another n", t.best(0, 9, 0), -1);
        }
    }

    @Says({"t3: both are looked at, whatever the ODDS),"})
    private static void bothAreLookedAtWhateverTheOdds() {
        for (String odds : new String[] {GET, MISS}) {
            for (String told : LOOKS_20001) {
                int n = told.charAt(0) - '0';
                TubBites t = of(told.substring(1) + odds);
                due("a second less", t.best(0, n - 1, 0) > 0, odds.equals(GET));
                due("best(0, " + n + ", 0) of " + told + odds, t.best(0, n, 0), -2);
            }
        }
    }

    @Says({"16: NONE if one can't be;"})
    private static void noBestOfNone() {
        TubBites t = of(ONE_CELL + apple('a', 0, 0) + bobber('a', 0, 0, 0, 3));
        for (int bobber : beyond(0, 0)) {
            due("best(" + bobber + ", 1, 0)", t.best(bobber, 1, 0), -1);
        }
        for (int n : beyond(0, 8)) {
            due("best(0, " + n + ", 0)", t.best(0, n, 0), -1);
            due("best(0, " + n + ", 2)", t.best(0, n, 2), -1);
        }
        for (int what : beyond(0, 2)) {
            due("best(0, 1, " + what + ")", t.best(0, 1, what), -1);
        }
        due("of a new object", new TubBites().best(0, 0, 0), -1);
    }

    // Promises 17 to 19

    /** By these draws the rules' matches are 1 1 1, -2 -1 -2, 2 0 2: one pair rests, the first and the second. */
    private static final String RULES = "tub 5 by 1;draw 207;odds free 35+10*far;odds stalk 20;odds wall 25;"
        + "rule a odds;rule b 0-odds;rule c far;apple a at 1 0 size 9 soft 0 stalk;" + apple('b', 2, 0) + apple('c', 3, 0)
        + "apple d at 0 0 size 9 soft 0 stalk;";
    private static final int[][] MATCHES = {{1, 1, 1}, {-2, -1, -2}, {2, 0, 2}};

    @Says({"t3: MATCH of two RULES: BOBBER 0 by the one, BOBBER 1 by the other, 10 TURNS of these two alone:", "17: MATCH;"})
    private static void matchOfTwoRules() {
        String others = bobber('c', 2, 0, 3, 9) + bobber('d', 1, 0, 3, 9);
        for (int one = 0; one < 3; one++) {
            for (int two = 0; two < 3; two++) {
                String first = "bobber a at 0 0 reach 2 breath 3 mouth 0";
                String second = "bobber b at 4 0 reach 3 breath 1 mouth 0";
                due("match(" + one + ", " + two + ")", of(RULES + first + ";" + second + ";").match(one, two), MATCHES[one][two]);
                due("others are not in it", of(RULES + first + " by c;" + second + " by b;" + others).match(one, two), MATCHES[one][two]);
                TubBites party = of(RULES + first + " by " + (char) ('a' + one) + ";" + second + " by " + (char) ('a' + two) + ";");
                party.party(10);
                due("as a party", party.bobber(0, 1) - party.bobber(1, 1), MATCHES[one][two]);
            }
        }
    }

    private static TubBites missesFirst(int misses) {
        return of("tub 2 by 1;odds free 100*(tries>" + (misses - 1) + ");rule a 1;" + apple('a', 0, 0) + bobber('a', 0, 0, 0, 0)
            + bobber('b', 1, 0, 0, 0));
    }

    @Says({"t3: 10 TURNS of these two alone:"})
    private static void tenTurnsOfAMatch() {
        due("in the tenth turn", missesFirst(9).match(0, 0), 1);
        due("not in an eleventh", missesFirst(10).match(0, 0), 0);
        String one = ONE_CELL + "rule a 1;" + apple('a', 0, 0) + bobber('a', 0, 0, 0, 0) + bobber('b', 0, 0, 0, 0);
        due("the second one's tenth try", of(one + "odds free 100*(tries>18);").match(0, 0), -1);
        due("no twenty-first try", of(one + "odds free 100*(tries>19);").match(0, 0), 0);
    }

    @Says({"t3: how many APPLES more the first one has GOT in it."})
    private static void whatWasGotBeforeDoesNotCount() {
        TubBites t = of("tub 3 by 1;" + GET + "rule a 1;" + numbered("apple a# at @ size 9 soft 0;", 3) + bobber('a', 0, 0, 2, 0)
            + bobber('b', 2, 0, 0, 0));
        due("match(0, 0)", t.match(0, 0), 1);
        t.go(0, 0, FREE);
        t.go(0, 1, FREE);
        due("match(0, 0)", t.match(0, 0), 1);
        t.undo();
        t.undo();
        t.go(0, 0, FREE);
        t.go(1, 2, FREE);
        due("match(0, 0)", t.match(0, 0), 1);
        t.go(0, 1, FREE);
        due("none is left", t.match(0, 0), 0);
    }

    @Says({"17: GAP if one can't be (two BOBBERS are needed)."})
    private static void noMatchOfNone() {
        String tub = ONE_CELL + "rule a 1;rule b 1;" + bobber('a', 0, 0, 0, 0);
        TubBites t = of(tub + bobber('b', 0, 0, 0, 0));
        due("match(1, 1)", t.match(1, 1), 0);
        for (int rule : beyond(0, 1)) {
            due("match(" + rule + ", 0)", t.match(rule, 0), -1000000);
            due("match(0, " + rule + ")", t.match(0, rule), -1000000);
        }
        due("one bobber", of(tub).match(0, 0), -1000000);
        due("no bobber", of(ONE_CELL + "rule a 1;").match(0, 0), -1000000);
        due("no rules", of(ONE_CELL + bobber('a', 0, 0, 0, 0) + bobber('b', 0, 0, 0, 0)).match(0, 0), -1000000);
        due("of a new object", new TubBites().match(0, 0), -1000000);
    }

    /** Only what is far has odds; by the rules he takes what is near, far, far, near. */
    private static final String NEAR_OR_FAR = "tub 4 by 1;odds free 100*(far=2);rule a 0-far;rule b far;rule c far*2;rule d 0-far*2;"
        + apple('a', 0, 0) + apple('b', 2, 0) + "bobber a at 0 0 reach 2 breath 0 mouth 0;bobber b at 3 0 reach 0 breath 0 mouth 0;";

    @Says({"t3: REPLY to a RULE of BOBBER 1: the RULE by which BOBBER 0 does best; of like ones the first.", "18: REPLY;"})
    private static void theFirstOfTheBestReplies() {
        TubBites t = of(NEAR_OR_FAR);
        due("match(0, 0)", t.match(0, 0), 0);
        due("match(1, 0)", t.match(1, 0), 1);
        due("match(2, 0)", t.match(2, 0), 1);
        for (int two = 0; two < 4; two++) {
            due("reply(" + two + ")", t.reply(two), 1);
        }
        due("all alike", of(ONE_CELL + "rule a 1;rule b 2;" + bobber('a', 0, 0, 0, 0) + bobber('b', 0, 0, 0, 0)).reply(1), 0);
        TubBites matches = of(RULES + "bobber a at 0 0 reach 2 breath 3 mouth 0;bobber b at 4 0 reach 3 breath 1 mouth 0;");
        int[] due = {2, 0, 2};
        for (int two = 0; two < 3; two++) {
            due("reply(" + two + ")", matches.reply(two), due[two]);
        }
        // he would do better by no rule at all: the first try is the only one that has odds
        TubBites other = of("tub 3 by 1;odds free 100*(far=0);rule a far;rule b far*2;" + apple('a', 0, 0) + apple('b', 2, 0)
            + bobber('a', 0, 0, 2, 0) + bobber('b', 1, 0, 0, 0));
        due("match(0, 0)", other.match(0, 0), 0);
        due("match(1, 0)", other.match(1, 0), 0);
        due("reply(0)", other.reply(0), 0);
        // the best may be below 0
        TubBites below = of("tub 2 by 1;odds free 100;rule a 1;" + apple('a', 1, 0) + bobber('a', 0, 0, 0, 0) + bobber('b', 1, 0, 0, 0));
        due("match(0, 0)", below.match(0, 0), -1);
        due("reply(0)", below.reply(0), 0);
    }

    @Says({"18: NONE if one can't be."})
    private static void noReplyToNone() {
        String tub = ONE_CELL + "rule a 1;rule b 1;" + bobber('a', 0, 0, 0, 0);
        TubBites t = of(tub + bobber('b', 0, 0, 0, 0));
        due("reply(1)", t.reply(1), 0);
        for (int rule : beyond(0, 1)) {
            due("reply(" + rule + ")", t.reply(rule), -1);
        }
        due("one bobber", of(tub).reply(0), -1);
        due("no rules", of(ONE_CELL + bobber('a', 0, 0, 0, 0) + bobber('b', 0, 0, 0, 0)).reply(0), -1);
        due("of a new object", new TubBites().reply(0), -1);
    }

    @Says({"t3: RESTS: pairs of RULES, of which neither is better off (the second by less) by another one alone.", "19: RESTS: how many pairs"})
    private static void pairsThatRest() {
        TubBites t = of(RULES + "bobber a at 0 0 reach 2 breath 3 mouth 0;bobber b at 4 0 reach 3 breath 1 mouth 0;");
        due("rests()", t.rests(), 1);
        lying(t, 1);
        TubBites none = of(NEAR_OR_FAR);
        due("far for the first, whatever for the second", none.rests(), 8);
        lying(none, 10, 11, 12, 13, 20, 21, 22, 23);
    }

    @Says({"19: They lie there then, as 10 * the first and the second, in order."})
    private static void allPairsLieThere() {
        TubBites t = of(ONE_CELL + numbered("rule r# 1;", 6) + bobber('a', 0, 0, 0, 0) + bobber('b', 0, 0, 0, 0));
        due("all alike", t.rests(), 36);
        due("about(13)", t.about(13), 36);
        for (int i = 0; i < 36; i++) {
            due("lies(" + i + ")", t.lies(i), 10 * (i / 6) + i % 6);
        }
        due("lies(36)", t.lies(36), -1);
    }

    @Says({"19: (0 without two BOBBERS)."})
    private static void noPairsWithoutTwoBobbers() {
        TubBites t = of(ONE_CELL + "rule a 1;" + bobber('a', 0, 0, 0, 0));
        t.order(1);
        lying(t, 0);
        due("one bobber", t.rests(), 0);
        lying(t);
        due("no bobber", of(ONE_CELL + "rule a 1;").rests(), 0);
        due("no rules", of(ONE_CELL + bobber('a', 0, 0, 0, 0) + bobber('b', 0, 0, 0, 0)).rests(), 0);
        due("of a new object", new TubBites().rests(), 0);
    }

    // Promises 22 and 23

    @Says({"t3: SEAT of a BOBBER for n TURNS (1 .. 10): the CELL at the rim from which, all others away, he GETS most in n TURNS;",
        "22: SEAT what 0: x, 1: y, 2: how many he GETS;"})
    private static void theSeat() {
        TubBites t = of("tub 5 by 4;" + GET + "rule a 0-odds;rule b odds;" + apple('a', 3, 2) + apple('b', 4, 3) + apple('c', 2, 2)
            + bobber('a', 0, 0, 1, 0) + bobber('b', 0, 0, 5, 0));
        int[][] due = {{4, 1, 1}, {4, 2, 2}, {3, 3, 3}};
        for (int n = 1; n <= 10; n++) {
            for (int what = 0; what < 3; what++) {
                due("seat(0, " + n + ", " + what + ")", t.seat(0, n, what), due[Math.min(n, 3) - 1][what]);
            }
        }
    }

    @Says({"t3: he GETS most in n TURNS;"})
    private static void eachSeatIsLookedForAnew() {
        TubBites t = of("tub 5 by 1;" + GET + apple('a', 0, 0) + apple('b', 1, 0) + bobber('a', 4, 0, 1, 0) + bobber('b', 4, 0, 0, 0));
        due("two", t.seat(0, 2, 2), 2);
        due("one of them", t.seat(0, 1, 2), 1);
        due("the other bobber", t.seat(1, 9, 2), 1);
        t.go(0, 0, FREE);
        t.party(0);
        due("x", t.seat(1, 9, 0), 0);
        TubBites none = of("tub 5 by 1;" + MISS + apple('a', 0, 0) + bobber('a', 4, 0, 1, 0));
        due("none", none.seat(0, 9, 2), 0);
        due("the first", none.seat(0, 9, 0), 0);
    }

    @Says({"t3: CELL at the rim"})
    private static void noSeatOutsideOfTheTub() {
        TubBites t = of("tub 3 by 1;odds free 100*(far=3);" + apple('a', 0, 0) + bobber('a', 0, 0, 5, 0));
        due("x", t.seat(0, 1, 0), 0);
        due("gets", t.seat(0, 1, 2), 0);
        TubBites up = of("tub 1 by 3;odds free 100*(far=3);" + apple('a', 0, 0) + bobber('a', 0, 0, 5, 0));
        due("y", up.seat(0, 1, 1), 0);
        due("gets", up.seat(0, 1, 2), 0);
    }

    @Says({"t3: for n TURNS (1 .. 10): the CELL"})
    private static void oneToTenTurnsOfASeat() {
        due("in the first turn", of("tub 2 by 1;" + GET + apple('a', 0, 0) + bobber('a', 0, 0, 0, 0)).seat(0, 1, 2), 1);
        for (int misses = 1; misses <= 10; misses++) {
            for (int n = 1; n <= 10; n++) {
                due(misses + " misses in " + n, missesFirst(misses).seat(0, n, 2), misses < n ? 1 : 0);
            }
        }
    }

    @Says({"t3: CELL at the rim"})
    private static void aSeatIsAtTheRim() {
        TubBites t = of("tub 3 by 3;" + GET + apple('a', 1, 1) + bobber('a', 1, 1, 0, 0));
        due("none from the rim", t.seat(0, 5, 2), 0);
        due("x", t.seat(0, 5, 0), 0);
        due("y", t.seat(0, 5, 1), 0);
        for (int cell = 0; cell < 20; cell++) {
            int x = cell % 5;
            int y = cell / 5;
            boolean isRim = x == 0 || x == 4 || y == 0 || y == 3;
            TubBites one = of("tub 5 by 4;" + GET + apple('a', x, y) + bobber('a', 2, 2, 0, 0));
            due("x at " + cell, one.seat(0, 1, 0), isRim ? x : 0);
            due("y at " + cell, one.seat(0, 1, 1), isRim ? y : 0);
            due("gets at " + cell, one.seat(0, 1, 2), isRim ? 1 : 0);
        }
    }

    @Says({"t3: from which, all others away,"})
    private static void allOthersAway() {
        TubBites t = of("tub 3 by 1;odds free 8;rule a 0-size;" + apple('a', 0, 0) + bobber('a', 0, 0, 2, 0) + bobber('b', 2, 0, 2, 0));
        due("the first draw is his", t.seat(1, 1, 2), 1);
        due("in two turns no more", t.seat(1, 2, 2), 1);
    }

    @Says({"t3: of like ones the first (by y, then x)."})
    private static void ofLikeSeatsTheFirst() {
        TubBites t = of("tub 4 by 3;" + GET + apple('a', 3, 1) + apple('b', 0, 2) + bobber('a', 1, 1, 0, 0));
        due("x", t.seat(0, 1, 0), 3);
        due("y", t.seat(0, 1, 1), 1);
        TubBites row = of("tub 4 by 3;" + GET + apple('a', 3, 2) + apple('b', 1, 2) + bobber('a', 1, 1, 0, 0));
        due("x", row.seat(0, 1, 0), 1);
        due("y", row.seat(0, 1, 1), 2);
    }

    @Says({"22: NONE if one can't be."})
    private static void noSeatOfNone() {
        TubBites t = of(ONE_CELL + apple('a', 0, 0) + bobber('a', 0, 0, 0, 3));
        for (int bobber : beyond(0, 0)) {
            due("seat(" + bobber + ", 1, 0)", t.seat(bobber, 1, 0), -1);
        }
        for (int n : beyond(1, 10)) {
            due("seat(0, " + n + ", 0)", t.seat(0, n, 0), -1);
        }
        for (int what : beyond(0, 2)) {
            due("seat(0, 1, " + what + ")", t.seat(0, 1, what), -1);
        }
        due("of a new object", new TubBites().seat(0, 1, 0), -1);
    }

    @Says({"t3: ORDER for n TURNS (1 .. 10): in which order BOBBERS (all) take turns, so that most is GOT in n TURNS;",
        "23: ORDER: how many are GOT;"})
    private static void theOrder() {
        // odds are 10 * mouth, each alone in his cell, draws 7, 79, 39: only 2, 0, 1 gets all in a turn
        TubBites t = of("tub 3 by 1;odds free 10*mouth;" + apple('a', 0, 0) + apple('b', 1, 0) + apple('c', 2, 0)
            + "bobber a at 0 0 reach 0 breath 0 mouth 8;bobber b at 1 0 reach 0 breath 0 mouth 4;bobber c at 2 0 reach 0 breath 0 mouth 1;");
        due("order(1)", t.order(1), 3);
        lying(t, 2, 0, 1);
        TubBites four = of("tub 4 by 1;odds free 10*mouth;" + numbered("apple a# at @ size 9 soft 0;", 4)
            + "bobber a at 0 0 reach 0 breath 0 mouth 5;bobber b at 1 0 reach 0 breath 0 mouth 1;"
            + "bobber c at 2 0 reach 0 breath 0 mouth 8;bobber d at 3 0 reach 0 breath 0 mouth 4;");
        due("order(1) of four", four.order(1), 4);
        lying(four, 1, 2, 3, 0);
    }

    @Says({"t3: ORDER for n TURNS (1 .. 10):"})
    private static void oneToTenTurnsOfAnOrder() {
        for (int n = 1; n <= 10; n++) {
            due("9 misses in " + n, missesFirst(9).order(n), n == 10 ? 1 : 0);
            due("no misses in " + n, of("tub 2 by 1;" + GET + apple('a', 0, 0) + bobber('a', 0, 0, 0, 0)).order(n), 1);
        }
        due("10 misses in 10", missesFirst(10).order(10), 0);
    }

    @Says({"t3: BOBBERS (all) take turns,"})
    private static void allTakeTurnsOnceEach() {
        TubBites t = of("tub 6 by 1;" + GET + numbered("apple a# at @ size 9 soft 0;", 6) + bobber('a', 0, 0, 0, 0) + bobber('b', 3, 0, 2, 0));
        t.go(0, 0, FREE);
        due("one each turn", t.order(1), 1);
        lying(t, 0, 1);
        due("five turns", t.order(5), 5);
        TubBites last = of("tub 6 by 1;" + GET + numbered("apple a# at @ size 9 soft 0;", 6) + bobber('a', 3, 0, 2, 0) + bobber('b', 0, 0, 0, 0));
        last.go(1, 0, FREE);
        due("one each turn", last.order(1), 1);
        lying(last, 0, 1);
    }

    @Says({"t3: of like ones the first (by BOBBERS, the first counts most)."})
    private static void ofLikeOrdersTheFirst() {
        TubBites t = of("tub 2 by 1;" + numbered("bobber b# at 0 0 reach 0 breath 0 mouth 0;", 4));
        due("order(3)", t.order(3), 0);
        lying(t, 0, 1, 2, 3);
        // the one of mouth 1 must be first, for draw 7: the others are alike
        TubBites first = of("tub 4 by 1;odds free 10*mouth;" + apple('a', 1, 0) + bobber('a', 0, 0, 0, 0) + bobber('b', 0, 0, 0, 0)
            + "bobber c at 1 0 reach 0 breath 0 mouth 1;" + bobber('d', 0, 0, 0, 0));
        due("order(1)", first.order(1), 1);
        lying(first, 0, 1, 2, 3);
        TubBites ahead = of("tub 4 by 1;odds free 10*mouth+(mouth=0)*8;" + apple('a', 1, 0) + apple('b', 0, 0) + apple('c', 2, 0)
            + bobber('a', 3, 0, 0, 0) + "bobber b at 0 0 reach 0 breath 0 mouth 8;bobber c at 1 0 reach 0 breath 0 mouth 1;"
            + bobber('d', 3, 0, 0, 0));
        due("order(1)", ahead.order(1), 2);
        lying(ahead, 0, 2, 1, 3);
    }

    @Says({"23: NONE if one can't be."})
    private static void noOrder() {
        TubBites t = of(ONE_CELL + GET + apple('a', 0, 0) + bobber('a', 0, 0, 0, 3));
        due("order(1)", t.order(1), 1);
        due("order(10)", t.order(10), 1);
        for (int n : beyond(1, 10)) {
            due("order(" + n + ")", t.order(n), -1);
        }
    }

    @Says({"23: It lies there then (behind NONE: nothing)."})
    private static void behindNoOrderNothingLies() {
        TubBites t = of(ONE_CELL + bobber('a', 0, 0, 0, 3) + bobber('b', 0, 0, 0, 3) + bobber('c', 0, 0, 0, 3));
        for (int n : beyond(1, 10)) {
            due("order(1)", t.order(1), 0);
            lying(t, 0, 1, 2);
            due("order(" + n + ")", t.order(n), -1);
            lying(t);
        }
    }

    // Promise 24

    private static final String ROW = "tub 6 by 1;" + GET + apple('a', 1, 0);

    @Says({"t3: DRIVES from a BOBBER to another one: the fewest free TRIES (4 at most) of the first, all MISSED,", "24: DRIVES: how many TRIES;",
        "24: Their APPLES lie there then"})
    private static void fourTriesAtMost() {
        for (int reach = 0; reach <= 5; reach++) {
            TubBites t = of(ROW + bobber('a', 0, 0, 5, 0) + bobber('b', 5, 0, reach, 0));
            int tries = reach > 4 ? 0 : 4 - reach;
            due("drives(0, 1, 0) by reach " + reach, t.drives(0, 1, 0), tries);
            lying(t, new int[tries]);
        }
        TubBites far = of("tub 6 by 1;" + GET + apple('a', 1, 0) + bobber('a', 0, 0, 1, 0) + bobber('b', 5, 0, 0, 0));
        due("out of his reach behind one", far.drives(0, 1, 0), -1);
        lying(far);
        TubBites less = of("tub 6 by 2;" + GET + apple('a', 0, 0) + bobber('a', 5, 0, 5, 0) + bobber('b', 0, 0, 0, 0));
        less.wave(1);
        less.wave(1);
        less.wave(1);
        less.wave(1);
        due("4 to the left", less.drives(0, 1, 0), 4);
        lying(less, 0, 0, 0, 0);
        less.wave(1);
        due("where he is he can't drive it", less.drives(0, 1, 0), -1);
        lying(less);
    }

    @Says({"t3: (4 at most)", "24: NONE if 4 are not enough;"})
    private static void fiveTriesAreTooMany() {
        // c must be eaten at the wall before a can come there
        String tub = "tub 6 by 1;" + GET + "bite 5;apple a at 2 0 size 9 soft 0;apple c at 5 0 size 1 soft 5;" + bobber('a', 0, 0, 5, 0)
            + bobber('b', 5, 0, 0, 0);
        TubBites four = of(tub);
        due("3 and 1", four.drives(0, 1, 0), 4);
        lying(four, 0, 0, 1, 0);
        due("nothing is to be done for c", four.drives(0, 1, 1), 0);
        TubBites five = of(tub.replace("at 2 0", "at 1 0"));
        due("4 and 1", five.drives(0, 1, 0), -1);
        lying(five);
    }

    @Says({"t3: of whichever APPLES he can TRY, behind which the other one can TRY a told APPLE free;"})
    private static void byWhicheverApples() {
        // only b is in his reach: it pushes a ahead of it
        TubBites t = of("tub 5 by 1;" + GET + apple('a', 2, 0) + apple('b', 1, 0) + bobber('a', 0, 0, 1, 0) + bobber('b', 4, 0, 1, 0));
        due("drives(0, 1, 0)", t.drives(0, 1, 0), 1);
        lying(t, 1);
        due("drives(0, 1, 1)", t.drives(0, 1, 1), -1);
        TubBites eaten = of("tub 5 by 1;bite 0;apple a at 1 0 size 2 soft 0;" + bobber('a', 0, 0, 5, 0) + bobber('b', 3, 0, 1, 0)
            + bobber('c', 4, 0, 1, 0));
        due("just not eaten", eaten.drives(0, 1, 0), 1);
        due("eaten on the way", eaten.drives(0, 2, 0), -1);
        // an apple that is eaten makes room: c is at the wall, b ahead of a
        TubBites room = of("tub 4 by 1;bite 5;apple a at 1 0 size 9 soft 0;apple b at 2 0 size 9 soft 0;apple c at 3 0 size 1 soft 5;"
            + bobber('a', 0, 0, 5, 0) + bobber('b', 3, 0, 0, 0));
        due("c eaten, then b goes on", room.drives(0, 1, 1), 2);
        lying(room, 2, 0);
    }

    @Says({"t3: DRIVES from a BOBBER to another one:"})
    private static void drivenToEachSide() {
        int[][] kneels = {{0, 2, 5, 2}, {5, 2, 0, 2}, {2, 0, 2, 5}, {2, 5, 2, 0}};
        for (int[] row : kneels) {
            TubBites t = of("tub 6 by 6;" + GET + apple('a', 2, 2) + bobber('a', row[2], row[3], 1, 0) + bobber('b', row[0], row[1], 5, 0));
            int far = Math.max(Math.abs(row[2] - 2), Math.abs(row[3] - 2));
            due("drives(1, 0, 0)", t.drives(1, 0, 0), far - 1);
            lying(t, new int[far - 1]);
            due("he himself would drive it away", t.drives(0, 1, 0), 0);
        }
        TubBites ten = of("tub 6 by 2;" + GET + numbered("apple a# at @ size 9 soft 0;", 10) + bobber('a', 0, 1, 5, 0) + bobber('b', 5, 1, 1, 0));
        due("the last of ten, one further", ten.drives(0, 1, 9), 1);
        lying(ten, 7);
        due("the first of ten", ten.drives(0, 1, 0), -1);
        lying(ten);
    }

    @Says({"t3: of like ones the first (APPLE by APPLE)."})
    private static void ofLikeDrivesTheFirst() {
        TubBites t = of("tub 6 by 1;" + GET + apple('a', 3, 0) + apple('b', 1, 0) + apple('c', 2, 0) + bobber('a', 0, 0, 5, 0)
            + bobber('b', 5, 0, 1, 0) + bobber('c', 5, 0, 0, 0));
        due("one by any", t.drives(0, 1, 0), 1);
        lying(t, 0);
        due("two by any", t.drives(0, 2, 0), 2);
        lying(t, 0, 0);
        due("c by b or c", t.drives(0, 1, 2), 2);
        lying(t, 1, 1);
        TubBites room = of("tub 6 by 1;" + GET + apple('a', 1, 0) + apple('b', 2, 0) + apple('c', 4, 0) + bobber('a', 0, 0, 5, 0)
            + bobber('b', 5, 0, 2, 0) + bobber('c', 5, 0, 1, 0));
        due("b by a", room.drives(0, 1, 1), 1);
        lying(room, 0);
        due("b by a twice", room.drives(0, 2, 1), 2);
        lying(room, 0, 0);
    }

    @Says({"24: -2 if one can't be"})
    private static void noDrivesOfNone() {
        TubBites t = of(ROW + apple('b', 2, 0) + bobber('a', 0, 0, 5, 0) + bobber('b', 5, 0, 1, 0));
        due("drives(0, 1, 0)", t.drives(0, 1, 0), 3);
        for (int no : beyond(0, 1)) {
            due("drives(" + no + ", 1, 0)", t.drives(no, 1, 0), -2);
            due("drives(0, " + no + ", 0)", t.drives(0, no, 0), -2);
            due("drives(" + no + ", " + no + ", 0)", t.drives(no, no, 0), -2);
            due("drives(0, 1, " + no + ")", t.drives(0, 1, no), -2);
        }
        due("of a new object", new TubBites().drives(0, 1, 0), -2);
    }

    @Says({"24: (the same BOBBER,"})
    private static void noDrivesToHimself() {
        TubBites t = of(ROW + bobber('a', 0, 0, 5, 0) + bobber('b', 5, 0, 1, 0));
        due("drives(0, 0, 0)", t.drives(0, 0, 0), -2);
        due("drives(1, 1, 0)", t.drives(1, 1, 0), -2);
        due("drives(1, 0, 0)", t.drives(1, 0, 0), 0);
    }

    @Says({"24: an APPLE that is out, too)."})
    private static void noDrivesOfWhatIsOut() {
        TubBites t = of("tub 6 by 1;odds free 8;bite 5;" + apple('a', 1, 0) + "apple b at 2 0 size 1 soft 5;" + apple('c', 3, 0)
            + bobber('a', 0, 0, 5, 0) + bobber('b', 5, 0, 5, 0));
        due("in the tub", t.drives(0, 1, 0), 0);
        due("got", t.go(0, 0, FREE), 1);
        due("drives(0, 1, 0)", t.drives(0, 1, 0), -2);
        due("in the tub", t.drives(0, 1, 1), 0);
        due("eaten", t.go(0, 1, FREE), 0);
        due("drives(0, 1, 1)", t.drives(0, 1, 1), -2);
        due("drives(0, 1, 2)", t.drives(0, 1, 2), 0);
    }

    @Says({"24: Their APPLES lie there then (behind NONE, -2: nothing)."})
    private static void behindNoDrivesNothingLies() {
        TubBites t = of(ROW + apple('b', 0, 0) + bobber('a', 0, 0, 5, 0) + bobber('b', 5, 0, 1, 0));
        int[][] none = {{0, 1, 1, -1}, {0, 0, 0, -2}, {0, 2, 0, -2}, {-1, 1, 0, -2}, {0, 1, 2, -2}};
        for (int[] row : none) {
            due("drives(0, 1, 0)", t.drives(0, 1, 0), 3);
            lying(t, 0, 0, 0);
            due("drives(" + row[0] + ", " + row[1] + ", " + row[2] + ")", t.drives(row[0], row[1], row[2]), row[3]);
            lying(t);
        }
    }

    // Promises 25 and 26

    private static String bittenAway(int turns) {
        return ONE_CELL + "odds free 0;bite 0;apple a at 0 0 size " + turns + " soft 0;" + bobber('a', 0, 0, 0, 0);
    }

    @Says({"t3: A set of APPLES in the tub is GONE with a TURN of a PARTY, if with these alone in it none is in it behind that TURN",
        "25: GONE: with which TURN (from 1 on;"})
    private static void goneWithATurn() {
        TubBites t = of("tub 4 by 1;" + GET + numbered("apple a# at @ size 9 soft 0;", 4) + bobber('a', 0, 0, 2, 0));
        due("one", t.gone(1), 1);
        due("two", t.gone(5), 2);
        due("three", t.gone(7), 3);
        due("out of reach", t.gone(8), -1);
        due("one out of reach", t.gone(9), -1);
        due("bitten away", of(bittenAway(1)).gone(1), 1);
        due("without bobbers", of("tub 4 by 1;" + apple('a', 0, 0)).gone(1), -1);
        // alone there is nothing to lean on, and nothing in the way
        TubBites alone = of("tub 3 by 1;odds free 0;odds lean 100;rule a odds;" + apple('a', 1, 0) + apple('b', 2, 0) + bobber('a', 0, 0, 1, 0));
        due("alone", alone.gone(1), -1);
        due("it leans on the other one, which is not gone", alone.gone(3), -1);
        due("of two bobbers in one turn", of("tub 2 by 1;" + GET + apple('a', 0, 0) + apple('b', 1, 0) + bobber('a', 0, 0, 1, 0)
            + bobber('b', 0, 0, 1, 0)).gone(3), 1);
    }

    @Says({"t3: (60 TURNS at most).", "25: NONE if not within 60;"})
    private static void sixtyTurnsAtMost() {
        due("with turn 59", of(bittenAway(59)).gone(1), 59);
        due("with turn 60", of(bittenAway(60)).gone(1), 60);
        due("not within 60", of(bittenAway(61)).gone(1), -1);
    }

    @Says({"25: 0 of no APPLES);"})
    private static void noApplesAreGoneAtOnce() {
        TubBites t = of("tub 4 by 1;" + GET + apple('a', 0, 0) + bobber('a', 0, 0, 2, 0));
        due("gone(0)", t.gone(0), 0);
        t.go(0, 0, FREE);
        due("gone(0)", t.gone(0), 0);
        due("of a new object", new TubBites().gone(0), 0);
    }

    @Says({"25: -2 if one can't be"})
    private static void noneIsGone() {
        TubBites t = of("tub 4 by 1;" + apple('a', 0, 0) + apple('b', 1, 0) + apple('c', 2, 0) + bobber('a', 0, 0, 2, 0));
        due("all there are", t.gone(7) != -2, true);
        for (int set : new int[] {8, 9, 15, 16, 1024, -1, -8, Integer.MIN_VALUE, Integer.MIN_VALUE + 1, Integer.MAX_VALUE, 1 << 30}) {
            due("gone(" + set + ")", t.gone(set), -2);
        }
        due("of a new object", new TubBites().gone(1), -2);
        TubBites ten = of("tub 6 by 2;" + GET + numbered("apple a# at @ size 9 soft 0;", 10) + bobber('a', 0, 0, 5, 0));
        due("all ten", ten.gone(1023), 10);
        due("eleven", ten.gone(1024), -2);
    }

    @Says({"25: (an APPLE that is out, too)."})
    private static void whatIsOutIsNotGone() {
        TubBites t = of("tub 4 by 1;odds free 8;bite 0;" + apple('a', 0, 0) + "apple b at 1 0 size 1 soft 0;" + apple('c', 2, 0)
            + bobber('a', 0, 0, 2, 0));
        due("got", t.go(0, 0, FREE), 1);
        due("gone(1)", t.gone(1), -2);
        due("eaten", t.go(0, 1, FREE), 0);
        due("gone(2)", t.gone(2), -2);
        due("gone(6)", t.gone(6), -2);
        due("gone(5)", t.gone(5), -2);
        due("gone(4)", t.gone(4) != -2, true);
    }

    @Says({"t3: PROVIDE for n TURNS (1 .. 60): the fewest APPLES of which some are in it still behind n TURNS;",
        "26: PROVIDE what 0: how many, 1: APPLES as bits;"})
    private static void theFewestApples() {
        TubBites t = of("tub 6 by 2;" + GET + numbered("apple a# at @ size 9 soft 0;", 10) + bobber('a', 0, 0, 5, 0));
        for (int n = 1; n <= 9; n++) {
            due("provide(" + n + ", 0)", t.provide(n, 0), n + 1);
            due("provide(" + n + ", 1)", t.provide(n, 1), (2 << n) - 1);
        }
        due("provide(10, 0)", t.provide(10, 0), -1);
        TubBites first = of("tub 6 by 1;" + GET + apple('a', 0, 0) + apple('b', 1, 0) + apple('c', 5, 0) + bobber('a', 0, 0, 2, 0));
        due("one out of reach", first.provide(60, 0), 1);
        due("one out of reach", first.provide(60, 1), 4);
    }

    @Says({"t3: of like ones the least set."})
    private static void theLeastSet() {
        TubBites t = of("tub 6 by 1;" + MISS + numbered("apple a# at @ size 9 soft 0;", 6) + bobber('a', 0, 0, 2, 0));
        due("provide(60, 1)", t.provide(60, 1), 1);
        TubBites soft = of("tub 6 by 1;" + MISS + "bite 5;apple a at 0 0 size 1 soft 5;" + apple('b', 1, 0) + apple('c', 2, 0)
            + bobber('a', 0, 0, 2, 0));
        due("provide(1, 1)", soft.provide(1, 1), 2);
        TubBites got = of("tub 6 by 1;" + GET + apple('a', 0, 0) + apple('b', 1, 0) + apple('c', 2, 0) + bobber('a', 0, 0, 5, 0));
        got.go(0, 0, FREE);
        due("of those in the tub", got.provide(1, 1), 6);
        due("of those in the tub", got.provide(1, 0), 2);
    }

    @Says({"t3: PROVIDE for n TURNS (1 .. 60):"})
    private static void oneToSixtyTurnsOfProvide() {
        due("1 turn", of(bittenAway(2)).provide(1, 1), 1);
        due("1 turn", of(bittenAway(1)).provide(1, 1), -1);
        due("59 turns", of(bittenAway(60)).provide(59, 1), 1);
        due("60 turns", of(bittenAway(61)).provide(60, 1), 1);
        due("60 turns", of(bittenAway(60)).provide(60, 1), -1);
    }

    @Says({"26: NONE if all are not enough,"})
    private static void allAreNotEnough() {
        TubBites t = of("tub 6 by 1;" + GET + apple('a', 0, 0) + apple('b', 1, 0) + bobber('a', 0, 0, 2, 0));
        due("just enough", t.provide(1, 0), 2);
        due("what 0", t.provide(2, 0), -1);
        due("what 1", t.provide(2, 1), -1);
        t.party(2);
        due("none in the tub", t.provide(1, 0), -1);
        due("no apples", of(ONE_CELL).provide(1, 0), -1);
        due("of a new object", new TubBites().provide(1, 0), -1);
    }

    @Says({"26: or one can't be."})
    private static void noProvideOfNone() {
        TubBites t = of(ONE_CELL + apple('a', 0, 0));
        due("without bobbers", t.provide(60, 0), 1);
        for (int n : beyond(1, 60)) {
            due("provide(" + n + ", 0)", t.provide(n, 0), -1);
            due("provide(" + n + ", 1)", t.provide(n, 1), -1);
        }
        for (int what : beyond(0, 1)) {
            due("provide(1, " + what + ")", t.provide(1, what), -1);
        }
    }

    // Promise 28

    @Says({"t3: WAVES: the fewest (6 at most) by which an APPLE is in a CELL;", "28: WAVES: how many; NONE if 6 are not enough;",
        "28: Their sides lie there then"})
    private static void sixWavesAtMost() {
        TubBites t = of("tub 6 by 6;" + apple('a', 0, 0));
        for (int cell = 0; cell < 36; cell++) {
            int x = cell % 6;
            int y = cell / 6;
            boolean isNear = x + y <= 6;
            due("waves(0, " + x + ", " + y + ")", t.waves(0, x, y), isNear ? x + y : -1);
            int[] sides = new int[isNear ? x + y : 0];
            for (int i = 0; i < sides.length; i++) {
                sides[i] = i < x ? 1 : 2;
            }
            lying(t, sides);
        }
        TubBites back = of("tub 6 by 6;" + apple('a', 5, 5));
        due("to the left and down", back.waves(0, 2, 2), 6);
        lying(back, 0, 0, 0, 3, 3, 3);
        due("7", back.waves(0, 1, 2), -1);
        lying(back);
    }

    @Says({"t3: the fewest (6 at most) by which an APPLE is in a CELL;"})
    private static void noWavesIfItIsThere() {
        TubBites t = of("tub 3 by 3;" + apple('a', 1, 2));
        t.waves(0, 0, 0);
        due("there already", t.waves(0, 1, 2), 0);
        lying(t);
        TubBites one = of(ONE_CELL + apple('a', 0, 0));
        due("one cell", one.waves(0, 0, 0), 0);
        // others in the way: a full row never goes across, a pair at the wall first goes away and comes back
        TubBites full = of("tub 2 by 1;" + apple('a', 0, 0) + apple('b', 1, 0));
        due("never", full.waves(0, 1, 0), -1);
        TubBites pair = of("tub 3 by 2;" + apple('a', 0, 0) + apple('b', 1, 0));
        due("b in the way", pair.waves(0, 2, 0), -1);
        due("a in the middle", pair.waves(0, 1, 0), 1);
        TubBites by = of("tub 2 by 2;" + apple('a', 0, 0) + apple('b', 1, 1));
        due("up beside b, then not right", by.waves(0, 1, 1), -1);
    }

    @Says({"t3: of like ones the first (side by side)."})
    private static void ofLikeWavesTheFirst() {
        TubBites t = of("tub 3 by 3;" + apple('a', 1, 1));
        int[][] due = {{0, 0, 0, 3}, {2, 0, 1, 3}, {0, 2, 0, 2}, {2, 2, 1, 2}};
        for (int[] row : due) {
            due("waves(0, " + row[0] + ", " + row[1] + ")", t.waves(0, row[0], row[1]), 2);
            lying(t, row[2], row[3]);
        }
        // both side waves are of no use for b, so a is brought round: the first way of all
        TubBites two = of("tub 3 by 1;" + apple('a', 0, 0) + apple('b', 2, 0));
        due("waves(1, 1, 0)", two.waves(1, 1, 0), 1);
        lying(two, 0);
    }

    @Says({"28: -2 if one can't be"})
    private static void noWavesOfNone() {
        TubBites t = of("tub 3 by 2;" + apple('a', 1, 1) + apple('b', 0, 0));
        due("the last cell", t.waves(0, 2, 1), 1);
        for (int no : new int[] {-1, 2, 3, Integer.MIN_VALUE, Integer.MAX_VALUE}) {
            due("waves(" + no + ", 0, 0)", t.waves(no, 0, 0), -2);
        }
        for (int x : new int[] {-1, 3, 4, Integer.MIN_VALUE, Integer.MAX_VALUE}) {
            due("waves(0, " + x + ", 0)", t.waves(0, x, 0), -2);
        }
        for (int y : new int[] {-1, 2, 3, Integer.MIN_VALUE, Integer.MAX_VALUE}) {
            due("waves(0, 0, " + y + ")", t.waves(0, 0, y), -2);
        }
        due("of a new object", new TubBites().waves(0, 0, 0), -2);
    }

    @Says({"28: (an APPLE that is out, too)."})
    private static void noWavesOfWhatIsOut() {
        TubBites t = of("tub 3 by 2;odds free 8;bite 0;" + apple('a', 1, 1) + "apple b at 2 1 size 1 soft 0;" + apple('c', 0, 0)
            + bobber('a', 1, 1, 1, 0));
        due("got", t.go(0, 0, FREE), 1);
        due("waves(0, 1, 1)", t.waves(0, 1, 1), -2);
        due("waves(0, 2, 1)", t.waves(0, 2, 1), -2);
        due("eaten", t.go(0, 1, FREE), 0);
        due("waves(1, 2, 1)", t.waves(1, 2, 1), -2);
        due("the other one", t.waves(2, 0, 0), 0);
        due("goes where they were", t.waves(2, 1, 1), 2);
    }

    @Says({"28: Their sides lie there then (behind NONE, -2: nothing)."})
    private static void behindNoWavesNothingLies() {
        TubBites t = of("tub 3 by 2;" + apple('a', 0, 0) + apple('b', 1, 0));
        int[][] none = {{0, 2, 0, -1}, {0, 3, 0, -2}, {0, 0, 2, -2}, {2, 0, 0, -2}, {-1, 0, 0, -2}, {0, -1, 0, -2}, {0, 0, -1, -2}};
        for (int[] row : none) {
            due("waves(0, 1, 1)", t.waves(0, 1, 1), 2);
            lying(t, 1, 2);
            due("waves(" + row[0] + ", " + row[1] + ", " + row[2] + ")", t.waves(row[0], row[1], row[2]), row[3]);
            lying(t);
        }
    }

    // Promise 29

    private static int lasts(String odds) {
        return of("tub 6 by 1;odds free " + odds + ";" + apple('a', 5, 0) + bobber('a', 0, 0, 0, 0)).fill(0, 999, 1);
    }

    @Says({"t3: It LASTS a BOBBER by an APPLE 1,000 by its ODDS free, cut"})
    private static void aThousandByItsOdds() {
        int[][] due = {{1, 1000}, {2, 500}, {3, 333}, {7, 142}, {34, 29}, {51, 19}, {99, 10}, {100, 10}, {9999, 10}};
        for (int[] row : due) {
            due("odds " + row[0], lasts("" + row[0]), row[1]);
        }
        TubBites kinds = of(ONE_CELL + "odds free 4;odds stalk 1;odds wall 1;odds ground 1;apple a at 0 0 size 9 soft 0 stalk;" + bobber('a', 0, 0, 0, 9));
        due("free alone", kinds.fill(0, 9, 1), 250);
    }

    @Says({"t3: (9,999 if these are 0;"})
    private static void noOddsLastLong() {
        due("odds 0", lasts("0"), 9999);
        due("odds below 0", lasts("0-7"), 9999);
        due("odds / 0", lasts("7/0"), 9999);
        TubBites ten = of("tub 6 by 2;" + MISS + numbered("apple a# at @ size 99 soft 0;", 10) + bobber('a', 0, 0, 5, 0));
        due("ten of them", ten.fill(0, 990, 1), 99990);
        due("nine of them", ten.fill(0, 989, 1), 89991);
    }

    @Says({"t3: whether he can TRY it is no matter)."})
    private static void outOfReachLastsToo() {
        TubBites t = of("tub 6 by 1;odds free 4*far;" + apple('a', 5, 0) + apple('b', 1, 0) + bobber('a', 0, 0, 1, 0) + bobber('b', 5, 0, 0, 0));
        due("out of reach", t.fill(0, 9, 0), 2);
        due("both", t.fill(0, 18, 1), 250 + 50);
        due("by the other one", t.fill(1, 9, 0), 1);
        due("by the other one", t.fill(1, 9, 1), 9999);
    }

    @Says({"t3: FILL of a room: the set of APPLES in the tub whose sizes together are no more, that LASTS longest together;",
        "29: FILL of a room (0 .. 999) for a BOBBER what 0: APPLES as bits, 1: how long it LASTS;"})
    private static void noMoreThanTheRoom() {
        // lasts 10 by 1, 20 by 2, .. 50 by 5
        TubBites t = of("tub 3 by 1;odds free 1000/(soft*10);apple a at 0 0 size 10 soft 1;apple b at 1 0 size 15 soft 2;apple c at 2 0 size 30 soft 5;"
            + bobber('a', 0, 0, 0, 0));
        int[][] due = {{0, 0, 0}, {9, 0, 0}, {10, 1, 10}, {14, 1, 10}, {15, 2, 20}, {24, 2, 20}, {25, 3, 30}, {29, 3, 30}, {30, 4, 50},
            {39, 4, 50}, {40, 5, 60}, {44, 5, 60}, {45, 6, 70}, {54, 6, 70}, {55, 7, 80}, {999, 7, 80}};
        for (int[] row : due) {
            due("fill(0, " + row[0] + ", 0)", t.fill(0, row[0], 0), row[1]);
            due("fill(0, " + row[0] + ", 1)", t.fill(0, row[0], 1), row[2]);
        }
    }

    @Says({"t3: of like ones the least (as bits)."})
    private static void theLeastAsBits() {
        TubBites t = of("tub 4 by 1;" + numbered("apple a# at @ size 9 soft 0;", 4) + bobber('a', 0, 0, 0, 0));
        int[] due = {0, 1, 3, 7, 15};
        for (int count = 0; count <= 4; count++) {
            due("room for " + count, t.fill(0, 9 * count, 0), due[count]);
            due("and a little more", t.fill(0, 9 * count + 8, 0), due[count]);
        }
        // a and b together are as good as c
        TubBites pair = of("tub 3 by 1;odds free 1000/(soft*10);apple a at 0 0 size 5 soft 2;apple b at 1 0 size 5 soft 2;apple c at 2 0 size 10 soft 4;"
            + bobber('a', 0, 0, 0, 0));
        due("3 is less than 4", pair.fill(0, 10, 0), 3);
    }

    @Says({"t3: set of APPLES in the tub whose sizes together"})
    private static void thoseInTheTubAsTheyAre() {
        TubBites t = of("tub 3 by 1;odds free 8;bite 5;apple a at 0 0 size 9 soft 0;apple b at 1 0 size 9 soft 5;apple c at 2 0 size 1 soft 5;"
            + "bobber a at 0 0 reach 2 breath 0 mouth 3;");
        due("all", t.fill(0, 999, 0), 7);
        due("got", t.go(0, 0, FREE), 1);
        due("all but that", t.fill(0, 999, 0), 6);
        due("eaten", t.go(0, 2, FREE), 0);
        due("all but these", t.fill(0, 999, 0), 2);
        due("a piece", t.go(0, 1, FREE), 0);
        due("its size now", t.fill(0, 5, 0), 2);
        due("its size now", t.fill(0, 4, 0), 0);
    }

    @Says({"29: (0 .. 999)", "29: NONE if one can't be."})
    private static void noFillOfNone() {
        TubBites t = of(ONE_CELL + apple('a', 0, 0) + bobber('a', 0, 0, 0, 0));
        due("fill(0, 0, 1)", t.fill(0, 0, 1), 0);
        due("fill(0, 999, 1)", t.fill(0, 999, 1), 20);
        for (int bobber : beyond(0, 0)) {
            due("fill(" + bobber + ", 9, 0)", t.fill(bobber, 9, 0), -1);
        }
        for (int room : beyond(0, 999)) {
            due("fill(0, " + room + ", 0)", t.fill(0, room, 0), -1);
            due("fill(0, " + room + ", 1)", t.fill(0, room, 1), -1);
        }
        for (int what : beyond(0, 1)) {
            due("fill(0, 9, " + what + ")", t.fill(0, 9, what), -1);
        }
        due("of a new object", new TubBites().fill(0, 0, 0), -1);
        TubBites empty = of(ONE_CELL + bobber('a', 0, 0, 0, 0));
        due("no apples", empty.fill(0, 9, 0), 0);
        due("no apples", empty.fill(0, 9, 1), 0);
    }

    // Promises 30 and 31

    private static void coin(TubBites t, int apple, int upper, int lower) {
        due("coin(" + apple + ", 0)", t.coin(apple, 0), upper);
        due("coin(" + apple + ", 1)", t.coin(apple, 1), lower);
    }

    @Says({"t3: The COIN is in an APPLE that is in the tub by its coin, of all these together.",
        "30: The COIN: the upper part (0), the lower part (1) of the odds, in lowest terms"})
    private static void theCoinInLowestTerms() {
        TubBites t = of("tub 4 by 1;" + GET + "apple a at 0 0 size 9 soft 0 coin 12;apple b at 1 0 size 9 soft 0 coin 18;"
            + "apple c at 2 0 size 9 soft 0 coin 99;" + apple('d', 3, 0) + bobber('a', 0, 0, 5, 0));
        coin(t, 0, 6, 65);
        coin(t, 1, 9, 65);
        coin(t, 2, 99, 130);
        coin(t, 3, 1, 130);
        t.go(0, 2, FREE);
        coin(t, 0, 12, 31);
        t.go(0, 3, FREE);
        coin(t, 0, 2, 5);
        coin(t, 1, 3, 5);
        t.go(0, 0, FREE);
        coin(t, 1, 1, 1);
        TubBites most = of("tub 6 by 2;" + numbered("apple a# at @ size 9 soft 0 coin 99;", 10));
        coin(most, 9, 1, 10);
    }

    @Says({"30: (0, 1 if it is out,"})
    private static void noCoinInWhatIsOut() {
        TubBites t = of("tub 4 by 1;odds free 8;bite 0;apple a at 0 0 size 9 soft 0 coin 2;apple b at 1 0 size 1 soft 0 coin 3;"
            + "apple c at 2 0 size 9 soft 0 coin 0;apple d at 3 0 size 9 soft 0 coin 5;" + bobber('a', 0, 0, 5, 0));
        coin(t, 2, 0, 1);
        due("got", t.go(0, 0, FREE), 1);
        coin(t, 0, 0, 1);
        due("eaten", t.go(0, 1, FREE), 0);
        coin(t, 1, 0, 1);
        coin(t, 3, 1, 1);
    }

    @Says({"30: (0, 1 if", "30: or all coins are 0);"})
    private static void allCoinsAreNought() {
        TubBites none = of("tub 2 by 1;" + GET + "apple a at 0 0 size 9 soft 0 coin 0;apple b at 1 0 size 9 soft 0 coin 0;" + bobber('a', 0, 0, 5, 0));
        coin(none, 0, 0, 1);
        coin(none, 1, 0, 1);
        none.party(2);
        coin(none, 1, 0, 1);
    }

    @Says({"30: NONE if one can't be."})
    private static void noCoinOfNone() {
        TubBites t = of("tub 2 by 1;" + apple('a', 0, 0));
        for (int apple : beyond(0, 0)) {
            due("coin(" + apple + ", 0)", t.coin(apple, 0), -1);
            due("coin(" + apple + ", 1)", t.coin(apple, 1), -1);
        }
        for (int part : beyond(0, 1)) {
            due("coin(0, " + part + ")", t.coin(0, part), -1);
        }
        due("of a new object", new TubBites().coin(0, 0), -1);
    }

    @Says({"31: The i-th number of what lies there; NONE if there is none such."})
    private static void whatLiesThere() {
        TubBites t = of("tub 3 by 3;" + apple('a', 0, 0) + bobber('a', 0, 0, 0, 0));
        due("nothing yet", t.lies(0), -1);
        due("waves(0, 2, 1)", t.waves(0, 2, 1), 3);
        lying(t, 1, 1, 2);
        for (int i : new int[] {-1, 3, 4, 35, 36, 37, Integer.MIN_VALUE, Integer.MAX_VALUE}) {
            due("lies(" + i + ")", t.lies(i), -1);
        }
        t.wave(0);
        t.undo();
        t.best(0, 2, 0);
        t.gone(1);
        lying(t, 1, 1, 2);
        t.order(1);
        lying(t, 0);
        due("nothing of before", t.lies(1), -1);
    }
}
