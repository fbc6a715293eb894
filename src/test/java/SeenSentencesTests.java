/** Sentences of part 4 of the terms and of the promises 27, 32 to 39: what was seen and when, images, numbers about all. */
public final class SeenSentencesTests extends Sentences {
    private static final int FREE = 0;
    private static final int WALL = 2;
    private static final int GROUND = 3;
    private static final long MOST = 1000000000000000L;
    private static final String MISS = "odds free 0;odds stalk 0;odds wall 0;odds ground 0;odds lean 0;";
    private static final String GET = "odds free 100;odds stalk 100;odds wall 100;odds ground 100;odds lean 100;";
    private static final String TEN = "tub 6 by 2;" + numbered("apple a# at @ size 1 soft 0;", 10);

    public static void main(String[] asked) throws Exception {
        run(SeenSentencesTests.class, asked);
    }

    /** Rules for the small one, the great one, the near one; apples are great and far, small and near, middling. */
    private static final String SEEN = "tub 4 by 1;rule a 0-size;rule b size;rule c 0-far;apple a at 3 0 size 9 soft 0;apple b at 1 0 size 2 soft 0;"
        + "apple c at 2 0 size 5 soft 0;bobber a at 0 0 reach 0 breath 4 mouth 0;bobber b at 3 0 reach 0 breath 2 mouth 0;";

    // Promise 32

    @Says({"32: A PICK of a set of APPLES (as bits): its number;", "t4: of a set of APPLES"})
    private static void picksAreNumbered() {
        TubBites t = of(SEEN);
        due("the first", t.pick(0, 7, 1), 0);
        due("the second, the same", t.pick(0, 7, 1), 1);
        due("of one apple", t.pick(1, 4, 2), 2);
        due("about(9)", t.about(9), 3);
        due("chance(0)", t.chance(0), 9);
    }

    @Says({"32: NONE, doing nothing, if one can't be"})
    private static void noPickOfNone() {
        TubBites t = of(SEEN);
        for (int bobber : beyond(0, 1)) {
            due("pick(" + bobber + ", 1, 0)", t.pick(bobber, 1, 0), -1);
        }
        for (int set : new int[] {8, 9, 15, 16, 1023, 1024, -1, -7, Integer.MIN_VALUE, Integer.MIN_VALUE + 1, Integer.MAX_VALUE}) {
            due("pick(0, " + set + ", 0)", t.pick(0, set, 0), -1);
        }
        for (int taken : beyond(0, 2)) {
            due("pick(0, 7, " + taken + ")", t.pick(0, 7, taken), -1);
        }
        due("about(9)", t.about(9), 0);
        due("chance(0)", t.chance(0), 1);
        due("of a new object", new TubBites().pick(0, 0, 0), -1);
    }

    @Says({"32: (what was taken is not in the set, too),"})
    private static void whatWasTakenIsInTheSet() {
        TubBites t = of(SEEN);
        for (int set = 0; set < 8; set++) {
            int before = t.about(9);
            for (int taken = 0; taken < 3; taken++) {
                boolean isIn = (set >> taken) % 2 == 1;
                due("pick(0, " + set + ", " + taken + ")", t.pick(0, set, taken), isIn ? t.about(9) - 1 : -1);
            }
            due("about(9)", t.about(9), before + Integer.bitCount(set));
        }
    }

    @Says({"32: or there are 30.", "t4: PICKS, 30 at most,"})
    private static void thirtyPicks() {
        TubBites t = of(SEEN);
        for (int i = 0; i < 30; i++) {
            due("pick(0, 3, 0)", t.pick(0, 3, 0), i);
        }
        due("a thirty-first", t.pick(0, 3, 0), -1);
        due("about(9)", t.about(9), 30);
        due("chance(0)", t.chance(0), 1 << 30);
        due("the last one", t.untell(29), true);
        due("chance(0)", t.chance(0), 1 << 29);
        due("of them all", t.fits(0), 2);
        due("for none it is not so", t.nearest(1, 0), 0);
        due("the other two are wrong for all that count", t.nearest(0, 0), 1);
        tape(t, SEEN);
        t.tub();
        due("in another tub", t.pick(0, 6, 1), 0);
        due("of that alone", t.fits(0), 5);
        due("chance(0)", t.chance(0), 2);
        due("nearest(1, 0)", t.nearest(1, 0), 0);
    }

    @Says({"t4: (in CELLS as told, nothing MISSED)", "t4: a BOBBER (all his breath) took one, free."})
    private static void picksAreOfTheTubAsTold() {
        TubBites t = of("tub 4 by 1;odds free 8;odds ground 0;bite 0;rule a 0-far;rule b size;rule c 0-tries;rule d breath*far;" + apple('a', 1, 0)
            + "apple b at 2 0 size 8 soft 0;bobber a at 0 0 reach 3 breath 3 mouth 0;");
        due("pick(0, 3, 0)", t.pick(0, 3, 0), 0);
        due("near, great, no tries", t.fits(0), 1 + 2 + 4);
        due("a is got", t.go(0, 0, FREE), 1);
        due("b is missed", t.go(0, 1, FREE), 0);
        due("no breath", t.go(0, 1, GROUND), 0);
        t.wave(0);
        t.wave(0);
        t.wave(0);
        due("as told", t.fits(0), 1 + 2 + 4);
        due("of one that is out", t.pick(0, 3, 0), 1);
        due("as told", t.fits(0), 1 + 2 + 4);
        TubBites all = of("tub 4 by 1;odds ground 0;rule a breath*far;rule b (0-breath)*far;" + apple('a', 1, 0) + apple('b', 2, 0)
            + bobber('a', 0, 0, 0, 3));
        all.pick(0, 3, 1);
        due("all his breath", all.fits(0), 1);
        due("out of his reach, too", all.nearest(1, 0), 0);
    }

    // Promise 33

    @Says({"33: It is UNTOLD: true;", "t4: UNTOLD at a later one or the same:"})
    private static void untoldAtTheSameTimeOrLater() {
        TubBites t = of(SEEN);
        t.pick(0, 3, 0);
        t.pick(0, 7, 0);
        due("at the same time", t.untell(0), true);
        due("chance(0)", t.chance(0), 3);
        t.later(2);
        due("later", t.untell(1), true);
        due("chance(0)", t.chance(0), 3);
        due("chance(1)", t.chance(1), 3);
        due("chance(2)", t.chance(2), 1);
        due("they are PICKS all the same", t.about(9), 2);
    }

    @Says({"33: false if it is so already,"})
    private static void untoldAlready() {
        TubBites t = of(SEEN);
        t.pick(0, 7, 0);
        t.later(3);
        due("untell(0)", t.untell(0), true);
        t.later(4);
        due("untell(0)", t.untell(0), false);
        due("from the first time on", t.chance(3), 1);
        due("ahead of it", t.chance(2), 3);
    }

    @Says({"33: or there is none such."})
    private static void noneSuchToUntell() {
        TubBites t = of(SEEN);
        due("without picks", t.untell(0), false);
        t.pick(0, 7, 0);
        for (int pick : new int[] {-1, 1, 29, 30, 31, Integer.MIN_VALUE, Integer.MAX_VALUE}) {
            due("untell(" + pick + ")", t.untell(pick), false);
        }
        due("chance(0)", t.chance(0), 3);
        for (int i = 1; i < 30; i++) {
            t.pick(0, 7, 0);
        }
        due("untell(30)", t.untell(30), false);
        due("of a new object", new TubBites().untell(0), false);
    }

    // Promise 34

    @Says({"34: So much later (0 .. 1000): the TIME;", "t4: are TOLD at a TIME (0 at first, goes on),"})
    private static void theTimeGoesOn() {
        TubBites t = new TubBites();
        due("0 at first", t.about(10), 0);
        due("later(0)", t.later(0), 0);
        due("later(1)", t.later(1), 1);
        due("later(1000)", t.later(1000), 1001);
        due("about(10)", t.about(10), 1001);
        t.wave(0);
        t.undo();
        due("about(10)", t.about(10), 1001);
    }

    @Says({"34: NONE, doing nothing, for another number,"})
    private static void anotherNumberOfSeconds() {
        TubBites t = new TubBites();
        t.later(5);
        for (int by : beyond(0, 1000)) {
            due("later(" + by + ")", t.later(by), -1);
        }
        due("about(10)", t.about(10), 5);
    }

    @Says({"34: or if it would be above 100,000."})
    private static void notAbove100000() {
        TubBites t = new TubBites();
        for (int i = 1; i < 100; i++) {
            t.later(1000);
        }
        due("later(999)", t.later(999), 99999);
        due("later(2)", t.later(2), -1);
        due("later(1000)", t.later(1000), -1);
        due("about(10)", t.about(10), 99999);
        due("just 100,000", t.later(1), 100000);
        due("later(1)", t.later(1), -1);
        due("later(0)", t.later(0), 100000);
    }

    // Promises 27, 35, 36

    @Says({"t4: As known at k those count that were TOLD at k or before,"})
    private static void toldAtKOrBefore() {
        TubBites t = of(SEEN);
        t.later(10);
        t.pick(0, 7, 1);
        int[] k = {Integer.MIN_VALUE, -1, 0, 9, 10, 11, 100000, Integer.MAX_VALUE};
        for (int i = 0; i < k.length; i++) {
            boolean isKnown = i >= 4;
            due("chance(" + k[i] + ")", t.chance(k[i]), isKnown ? 3 : 1);
            due("fits(" + k[i] + ")", t.fits(k[i]), isKnown ? 5 : 7);
            due("nearest(1, " + k[i] + ")", t.nearest(1, k[i]), 0);
        }
        t.pick(0, 7, 0);
        due("nearest(1, 9)", t.nearest(1, 9), 0);
        due("nearest(1, 10)", t.nearest(1, 10), 1);
    }

    @Says({"t4: not UNTOLD at k or before."})
    private static void notUntoldAtKOrBefore() {
        TubBites t = of(SEEN);
        t.pick(0, 7, 1);
        t.later(10);
        t.untell(0);
        int[] k = {-1, 0, 9, 10, 11, Integer.MAX_VALUE};
        for (int i = 0; i < k.length; i++) {
            boolean isKnown = i == 1 || i == 2;
            due("chance(" + k[i] + ")", t.chance(k[i]), isKnown ? 3 : 1);
            due("fits(" + k[i] + ")", t.fits(k[i]), isKnown ? 5 : 7);
        }
    }

    @Says({"t4: FITS: RULES of which e (free) is, for each that counts, the greatest of its set for what was taken,", "35: FITS, as bits."})
    private static void rulesThatFit() {
        TubBites t = of(SEEN);
        t.pick(0, 7, 1);
        due("small, near", t.fits(0), 1 + 4);
        t.pick(1, 7, 0);
        due("near", t.fits(0), 4);
        t.later(1);
        t.untell(0);
        due("great, near", t.fits(1), 2 + 4);
        t.pick(0, 6, 2);
        due("great", t.fits(1), 2);
        t.pick(0, 4, 2);
        due("of one anything", t.fits(1), 2);
        t.pick(0, 7, 2);
        due("none", t.fits(1), 0);
        due("as it was known", t.fits(0), 4);
        // e free: kind is 0 and odds are those of a free try
        TubBites free = of("tub 4 by 1;odds free 10*far;odds stalk 90-far;rule a odds;rule b 0-odds;rule c 1+kind*far;" + apple('a', 1, 0)
            + "apple b at 3 0 size 9 soft 0 stalk;" + bobber('a', 0, 0, 5, 3));
        free.pick(0, 3, 1);
        due("by free odds", free.fits(0), 1);
        free.untell(0);
        free.pick(0, 3, 0);
        due("kind is 0: like ones", free.fits(0), 2 + 4);
    }

    @Says({"t4: of like ones the first. NEAREST:"})
    private static void ofLikeApplesTheFirstFits() {
        TubBites t = of("tub 4 by 1;rule a 1;rule b 4096*4096*128;" + apple('a', 3, 0) + apple('b', 2, 0) + apple('c', 1, 0) + bobber('a', 0, 0, 0, 0));
        t.pick(0, 6, 1);
        due("the first of the set", t.fits(0), 3);
        t.pick(0, 7, 1);
        due("not the first of the set", t.fits(0), 0);
    }

    @Says({"35: FITS, as bits."})
    private static void allFitWithoutPicks() {
        due("three rules", of(SEEN).fits(0), 7);
        due("six rules", of("tub 1 by 1;" + numbered("rule r# 1;", 6)).fits(0), 63);
        due("no rules", of("tub 1 by 1;").fits(0), 0);
        due("of a new object", new TubBites().fits(0), 0);
    }

    @Says({"t4: the RULE by which for the fewest that count it is not so;", "27: NEAREST what 0: the RULE, 1: for how many it is not so;"})
    private static void theNearestRule() {
        TubBites t = of(SEEN);
        t.pick(0, 7, 1);
        t.pick(0, 7, 0);
        t.pick(0, 7, 0);
        due("the great one", t.nearest(0, 0), 1);
        due("but for one", t.nearest(1, 0), 1);
        t.pick(1, 7, 2);
        due("but for two", t.nearest(1, 0), 2);
        due("the great one", t.nearest(0, 0), 1);
        t.later(1);
        t.untell(1);
        t.untell(2);
        due("the small one", t.nearest(0, 1), 0);
        due("but for one", t.nearest(1, 1), 1);
        due("as it was known", t.nearest(1, 0), 2);
    }

    @Says({"t4: it is not so; of like ones the first."})
    private static void theFirstOfTheNearest() {
        TubBites t = of(SEEN);
        due("without picks", t.nearest(0, 0), 0);
        due("without picks", t.nearest(1, 0), 0);
        t.pick(0, 7, 0);
        t.pick(0, 7, 1);
        due("each but for one", t.nearest(0, 0), 0);
        due("each but for one", t.nearest(1, 0), 1);
        t.pick(1, 7, 0);
        due("great or near", t.nearest(0, 0), 1);
        // none takes the first one, so each is wrong as often: there is no third rule
        TubBites no = of("tub 2 by 1;rule a size;rule b size*2;apple a at 0 0 size 1 soft 0;apple b at 1 0 size 2 soft 0;" + bobber('a', 0, 0, 0, 0));
        no.pick(0, 3, 0);
        due("the first", no.nearest(0, 0), 0);
        due("but for one", no.nearest(1, 0), 1);
    }

    @Says({"27: or for another what."})
    private static void anotherNearest() {
        TubBites t = of(SEEN);
        for (int what : beyond(0, 1)) {
            due("nearest(" + what + ", 0)", t.nearest(what, 0), -1);
        }
    }

    @Says({"27: NONE without RULES,"})
    private static void noNearestWithoutRules() {
        TubBites none = of("tub 1 by 1;" + apple('a', 0, 0) + bobber('a', 0, 0, 0, 0));
        none.pick(0, 1, 0);
        due("nearest(0, 0)", none.nearest(0, 0), -1);
        due("nearest(1, 0)", none.nearest(1, 0), -1);
        due("of a new object", new TubBites().nearest(1, 0), -1);
    }

    @Says({"t4: By CHANCE it is one in so many: sizes of all sets that count, multiplied", "36: By CHANCE one in so many"})
    private static void sizesMultiplied() {
        TubBites t = of(TEN + bobber('a', 0, 0, 0, 0));
        t.pick(0, 1023, 9);
        due("10", t.chance(0), 10);
        t.pick(0, 512, 9);
        due("10 by 1", t.chance(0), 10);
        t.pick(0, 7, 0);
        due("10 by 1 by 3", t.chance(0), 30);
        t.later(1);
        t.pick(0, 1020, 2);
        due("as known before", t.chance(0), 30);
        due("and 8", t.chance(1), 240);
        t.untell(0);
        due("without 10", t.chance(1), 24);
    }

    @Says({"t4: (1,000,000,000,000,000, if it is more)."})
    private static void noMoreThanTheMost() {
        TubBites t = of(TEN + bobber('a', 0, 0, 0, 0));
        long all = 1;
        for (int i = 0; i < 14; i++) {
            t.pick(0, 1023, 0);
            all *= 10;
            due("chance(0)", t.chance(0), all);
        }
        t.pick(0, 511, 0);
        due("9 more", t.chance(0), 9 * all);
        t.untell(14);
        t.pick(0, 1023, 0);
        due("just so many", t.chance(0), MOST);
        t.pick(0, 1, 0);
        due("just so many", t.chance(0), MOST);
        t.pick(0, 3, 0);
        due("more", t.chance(0), MOST);
        t.untell(17);
        for (int i = 18; i < 30; i++) {
            t.pick(0, 1023, 0);
            due("far more", t.chance(0), MOST);
        }
        // 3 to the 31st and so on are no whole tens: cut to the most, too
        TubBites nines = of(TEN + bobber('a', 0, 0, 0, 0));
        long product = 1;
        for (int i = 0; i < 30; i++) {
            nines.pick(0, 511, 0);
            product = Math.min(MOST, product * 9);
            due("nines", nines.chance(0), product);
        }
    }

    @Says({"36: (1 without PICKS)."})
    private static void oneWithoutPicks() {
        due("of a new object", new TubBites().chance(0), 1);
        TubBites t = of(SEEN);
        due("chance(0)", t.chance(0), 1);
        t.pick(0, 7, 0);
        due("none known", t.chance(-1), 1);
        t.untell(0);
        due("none that counts", t.chance(0), 1);
    }

    // Promises 37 and 38

    @Says({"37: APPLES, BOBBERS, RECORDS, the SEED are kept in a BOX 0 .. 2: how many APPLES are in the tub;",
        "38: All is as it was kept", "38: how many APPLES are in the tub;"})
    private static void allIsAsItWasKept() {
        TubBites t = of("tub 4 by 1;odds free 8;odds ground 8;bite 0;" + apple('a', 1, 0) + apple('b', 2, 0) + apple('c', 3, 0)
            + bobber('a', 0, 0, 3, 4));
        due("image(0)", t.image(0), 3);
        due("draw 7", t.go(0, 0, FREE), 1);
        due("image(1)", t.image(1), 2);
        due("draw 79", t.go(0, 1, FREE), 0);
        due("draw 39", t.go(0, 1, GROUND), 0);
        t.wave(0);
        due("image(2)", t.image(2), 2);
        due("back(0)", t.back(0), 3);
        at(t, 1, 0, 2, 0, 3, 0);
        due("in the tub", t.apple(0, 2), -1);
        due("seed", t.about(6), 0);
        due("seconds", t.bobber(0, 2), 0);
        due("got", t.bobber(0, 1), 0);
        due("tries", t.record(0, FREE, 0), 0);
        due("back(2)", t.back(2), 2);
        at(t, 1, 0, 1, 0, 2, 0);
        due("got", t.apple(0, 2), 0);
        due("missed", t.apple(1, 3), 2);
        due("size", t.apple(1, 4), 8);
        due("breath", t.bobber(0, 0), 1);
        due("seconds", t.bobber(0, 2), 5);
        due("tries", t.record(0, FREE, 0), 2);
        due("odds", t.record(0, FREE, 2), 16);
        due("ground", t.record(0, GROUND, 0), 1);
        due("seed", t.about(6), 397);
        due("back(1)", t.back(1), 2);
        due("seed", t.about(6), 71);
        due("breath", t.bobber(0, 0), 4);
        due("again", t.back(2), 2);
        due("and again", t.back(2), 2);
        due("seed", t.about(6), 397);
    }

    @Says({"37: are kept in a BOX 0 .. 2:"})
    private static void aBoxIsFilledAnew() {
        TubBites t = of("tub 4 by 1;" + GET + apple('a', 1, 0) + apple('b', 2, 0) + bobber('a', 0, 0, 3, 4));
        due("image(1)", t.image(1), 2);
        t.go(0, 0, FREE);
        due("image(1)", t.image(1), 1);
        t.go(0, 1, FREE);
        due("what was kept last", t.back(1), 1);
        due("about(3)", t.about(3), 1);
        t.go(0, 1, FREE);
        due("what is done then leaves the box as it is", t.back(1), 1);
        due("other boxes are empty", t.back(0) + t.back(2), -2);
        due("an empty tub", new TubBites().image(2), 0);
    }

    @Says({"37: NONE if there is none such."})
    private static void noSuchBoxToFill() {
        TubBites t = of("tub 4 by 1;" + apple('a', 1, 0));
        for (int box : beyond(0, 2)) {
            due("image(" + box + ")", t.image(box), -1);
        }
        for (int box = 0; box < 3; box++) {
            due("nothing was kept", t.back(box), -1);
        }
    }

    @Says({"38: (no ACTS are kept then):"})
    private static void noActsAreKeptThen() {
        TubBites t = of("tub 4 by 1;" + apple('a', 1, 0) + bobber('a', 0, 0, 0, 4));
        t.breathe(0);
        t.breathe(0);
        t.undo();
        due("an image keeps them", t.image(0), 1);
        due("about(7)", t.about(7), 1);
        due("about(8)", t.about(8), 1);
        due("back(0)", t.back(0), 1);
        due("about(7)", t.about(7), 0);
        due("about(8)", t.about(8), 0);
        due("undo()", t.undo(), false);
        due("redo()", t.redo(), false);
        t.breathe(0);
        due("undo()", t.undo(), true);
        due("as it was kept", t.bobber(0, 2), 2);
        for (int i = 0; i < 45; i++) {
            t.breathe(0);
        }
        due("back(0)", t.back(0), 1);
        due("about(7)", t.about(7), 0);
        t.breathe(0);
        due("undo()", t.undo(), true);
        due("as it was kept", t.bobber(0, 2), 2);
    }

    @Says({"38: All is as it was kept"})
    private static void whatIsNoPartOfAnImageStays() {
        TubBites t = of(SEEN);
        t.image(0);
        t.later(7);
        t.pick(0, 3, 0);
        t.waves(0, 2, 0);
        t.wave(0);
        due("back(0)", t.back(0), 3);
        due("the time", t.about(10), 7);
        due("the picks", t.chance(7), 2);
        lying(t, 0);
    }

    @Says({"38: NONE, doing nothing, if nothing was."})
    private static void nothingWasKept() {
        TubBites t = of("tub 4 by 1;" + apple('a', 1, 0));
        t.wave(0);
        t.wave(1);
        t.undo();
        due("image(1)", t.image(1), 1);
        t.wave(2);
        t.undo();
        for (int box : new int[] {0, 2, 3, -1, 34, Integer.MIN_VALUE, Integer.MAX_VALUE}) {
            due("back(" + box + ")", t.back(box), -1);
        }
        at(t, 0, 0);
        due("about(7)", t.about(7), 1);
        due("about(8)", t.about(8), 1);
        due("of a new object", new TubBites().back(0), -1);
    }

    // Promise 39

    @Says({"39: What 0: across, 1: up, 2: APPLES, 3: those in the tub, 4: BOBBERS, 5: RULES, 6: the SEED, 7: ACTS that can be undone, "
        + "8: redone, 9: PICKS, 10: the TIME, 11: bytes on the TAPE, 12: units, 13: how many lie there."})
    private static void numbersAboutAll() {
        TubBites t = of("tub 5 by 3;draw 8;odds free 100;odds lean 1+2*far;rule a odds;rule b odds+3;rule c 1;rule d 2;rule e 3;"
            + numbered("apple a# at @ size 1 soft 0;", 4) + numbered("bobber b# at 0 0 reach 1 breath 1 mouth 1;", 3));
        t.go(0, 0, FREE);
        for (int i = 0; i < 9; i++) {
            t.breathe(0);
        }
        for (int i = 0; i < 8; i++) {
            t.undo();
        }
        t.later(99);
        for (int i = 0; i < 7; i++) {
            t.pick(0, 1, 0);
        }
        t.waves(3, 4, 2);
        t.feed(0, 0, 0, 0, 0);
        t.end(14);
        int[] all = {5, 3, 4, 3, 3, 5, (8 * 137 + 71) % 1000, 2, 8, 7, 99, 14, 10, 3};
        for (int what = 0; what <= 13; what++) {
            due("about(" + what + ")", t.about(what), all[what]);
        }
    }

    @Says({"39: 3: those in the tub,"})
    private static void thoseInTheTub() {
        TubBites t = of("tub 3 by 1;odds free 8;bite 0;" + apple('a', 0, 0) + "apple b at 1 0 size 1 soft 0;" + apple('c', 2, 0) + bobber('a', 0, 0, 2, 0));
        due("all", t.about(3), 3);
        due("got", t.go(0, 0, FREE), 1);
        due("about(3)", t.about(3), 2);
        due("eaten", t.go(0, 1, FREE), 0);
        due("about(3)", t.about(3), 1);
        due("all that were told", t.about(2), 3);
    }

    @Says({"39: NONE for another what."})
    private static void anotherAbout() {
        TubBites t = of(SEEN);
        for (int what : beyond(0, 13)) {
            due("about(" + what + ")", t.about(what), -1);
        }
    }
}
