/**
 * Sentences of part 2 of the terms and of the promises 6 to 15, 20, 21: tries, breath, waves, parties, undone. Draws
 * from seed 0 on are 7, 79, 39, 46, 9, 53, 77, 52, 31, 67 (tenths of 71, 798, 397, 460, 91, 538, 777, 520, 311, 678).
 */
public final class PlaySentencesTests extends Sentences {
    private static final int FREE = 0;
    private static final int STALK = 1;
    private static final int WALL = 2;
    private static final int GROUND = 3;
    private static final int LEAN = 4;
    private static final String MISS = "odds free 0;odds stalk 0;odds wall 0;odds ground 0;odds lean 0;";
    private static final String GET = "odds free 100;odds stalk 100;odds wall 100;odds ground 100;odds lean 100;";

    public static void main(String[] asked) throws Exception {
        run(PlaySentencesTests.class, asked);
    }

    // Promises 6 and 7

    @Says({"6: Of an APPLE what 0: x, 1: y (where it is, or was when it was GOT),"})
    private static void whereAnAppleIsOrWas() {
        TubBites t = of("tub 5 by 4;" + GET + apple('a', 3, 2) + apple('b', 1, 1) + bobber('a', 0, 0, 5, 0));
        at(t, 3, 2, 1, 1);
        due("wave(1)", t.wave(1), 2);
        at(t, 4, 2, 2, 1);
        due("go(0, 0, 0)", t.go(0, 0, FREE), 1);
        at(t, 4, 2);
        due("wave(0)", t.wave(0), 1);
        due("wave(3)", t.wave(3), 1);
        at(t, 4, 2, 1, 0);
    }

    @Says({"6: 2: the BOBBER who has GOT it (NONE: it is in the tub; 9: it is EATEN),"})
    private static void whoHasGotAnApple() {
        TubBites t = of("tub 3 by 1;odds free 8;bite 5;apple a at 0 0 size 9 soft 0;apple b at 1 0 size 1 soft 5;"
            + apple('c', 2, 0) + bobber('a', 0, 0, 2, 0) + bobber('b', 0, 0, 2, 0));
        for (int apple = 0; apple < 3; apple++) {
            due("apple(" + apple + ", 2)", t.apple(apple, 2), -1);
        }
        due("draw 7: got", t.go(1, 0, FREE), 1);
        due("draw 79: eaten", t.go(1, 1, FREE), 0);
        int[] who = {1, 9, -1};
        for (int apple = 0; apple < 3; apple++) {
            due("apple(" + apple + ", 2)", t.apple(apple, 2), who[apple]);
        }
        due("eaten where it was", t.apple(1, 0), 1);
    }

    @Says({"6: 3: how often it was MISSED, 4: its size now;"})
    private static void missedAndSize() {
        TubBites t = of("tub 1 by 1;" + MISS + "bite 0;apple a at 0 0 size 3 soft 0;" + bobber('a', 0, 0, 0, 9));
        due("apple(0, 3)", t.apple(0, 3), 0);
        due("apple(0, 4)", t.apple(0, 4), 3);
        t.go(0, 0, GROUND);
        due("apple(0, 3)", t.apple(0, 3), 1);
        due("apple(0, 4)", t.apple(0, 4), 3);
        for (int size = 2; size >= 0; size--) {
            t.go(0, 0, FREE);
            due("apple(0, 3)", t.apple(0, 3), 4 - size);
            due("apple(0, 4)", t.apple(0, 4), size);
        }
    }

    @Says({"6: -2 if there is none such,"})
    private static void noSuchApple() {
        TubBites t = of("tub 3 by 1;" + apple('a', 0, 0) + apple('b', 1, 0));
        for (int what = 0; what <= 4; what++) {
            due("the last one", t.apple(1, what) != -2, true);
            for (int apple : beyond(0, 1)) {
                due("apple(" + apple + ", " + what + ")", t.apple(apple, what), -2);
            }
        }
        tape(t, "tub 3 by 1;" + apple('a', 0, 0));
        t.tub();
        due("none such any more", t.apple(1, 0), -2);
        t.tub();
        due("none at all", t.apple(0, 0), -2);
    }

    @Says({"6: or for another what."})
    private static void anotherWhatOfAnApple() {
        TubBites t = of("tub 3 by 1;" + apple('a', 0, 0));
        for (int what : beyond(0, 4)) {
            due("apple(0, " + what + ")", t.apple(0, what), -2);
        }
    }

    @Says({"7: Of a BOBBER what 0: his BREATH, 1: how many he has GOT, 2: SECONDS that he took in all;"})
    private static void ofABobber() {
        TubBites t = of("tub 3 by 1;odds wall 40;" + apple('a', 0, 0) + apple('b', 1, 0) + bobber('a', 0, 0, 2, 4));
        int[][] due = {{4, 0, 0}, {3, 1, 2}, {2, 1, 4}, {4, 1, 6}, {3, 2, 8}};
        for (int i = 0; i < due.length; i++) {
            for (int what = 0; what < 3; what++) {
                due("bobber(0, " + what + ") behind " + i, t.bobber(0, what), due[i][what]);
            }
            if (i == 0) {
                due("draw 7", t.go(0, 0, WALL), 1);
            } else if (i == 1) {
                due("draw 79", t.go(0, 1, WALL), 0);
            } else if (i == 2) {
                due("breathe(0)", t.breathe(0), 4);
            } else if (i == 3) {
                due("draw 39", t.go(0, 1, WALL), 1);
            }
        }
    }

    @Says({"7: NONE if there is none such,"})
    private static void noSuchBobber() {
        TubBites t = of("tub 3 by 1;" + bobber('a', 0, 0, 2, 4) + bobber('b', 0, 0, 2, 4));
        for (int what = 0; what <= 2; what++) {
            due("the last one", t.bobber(1, what) != -1, true);
            for (int bobber : beyond(0, 1)) {
                due("bobber(" + bobber + ", " + what + ")", t.bobber(bobber, what), -1);
            }
        }
        t.tub();
        due("none at all", t.bobber(0, 0), -1);
    }

    @Says({"7: or for another what."})
    private static void anotherWhatOfABobber() {
        TubBites t = of("tub 3 by 1;" + bobber('a', 0, 0, 2, 4));
        for (int what : beyond(0, 2)) {
            due("bobber(0, " + what + ")", t.bobber(0, what), -1);
        }
    }

    // What can be tried: promise 8

    @Says({"t2: KINDS of a TRY: 0 free, 1 stalk, 2 wall, 3 ground, 4 lean;",
        "t2: it takes 1, 1, 2, 3, 1 SECONDS, and 0, 0, 1, 3, 0 of his BREATH (told at first)."})
    private static void whatATryTakes() {
        int[] seconds = {1, 1, 2, 3, 1};
        int[] breath = {0, 0, 1, 3, 0};
        for (String odds : new String[] {MISS, GET}) {
            for (int kind = 0; kind < 5; kind++) {
                TubBites t = of("tub 3 by 1;" + odds + "apple a at 1 0 size 9 soft 0 stalk;" + apple('b', 2, 0) + bobber('a', 0, 0, 1, 20));
                due("told at first", t.bobber(0, 0), 20);
                due("go(0, 0, " + kind + ")", t.go(0, 0, kind), odds.equals(GET) ? 1 : 0);
                due("seconds of " + kind, t.bobber(0, 2), seconds[kind]);
                due("breath of " + kind, t.bobber(0, 0), 20 - breath[kind]);
            }
        }
    }

    @Says({"t2: A BOBBER can TRY an APPLE in the tub,"})
    private static void anAppleInTheTub() {
        TubBites t = of("tub 2 by 1;odds free 8;bite 0;apple a at 0 0 size 9 soft 0 stalk;apple b at 1 0 size 1 soft 0 stalk;"
            + bobber('a', 0, 0, 1, 9));
        for (int apple = 0; apple < 2; apple++) {
            for (int kind = 0; kind < 4; kind++) {
                due("odds(0, " + apple + ", " + kind + ")", t.odds(0, apple, kind) >= 0, true);
            }
        }
        due("got", t.go(0, 0, FREE), 1);
        due("eaten", t.go(0, 1, FREE), 0);
        for (int apple = 0; apple < 2; apple++) {
            for (int kind = 0; kind < 5; kind++) {
                due("odds(0, " + apple + ", " + kind + ")", t.odds(0, apple, kind), -1);
                due("go(0, " + apple + ", " + kind + ")", t.go(0, apple, kind), -1);
            }
        }
    }

    @Says({"t2: if it is no further FAR than his reach (the greater of how far it is across and up),"})
    private static void noFurtherThanHisReach() {
        for (int reach = 0; reach <= 5; reach++) {
            for (int cell = 0; cell < 36; cell++) {
                int across = Math.abs(cell % 6 - 1);
                int up = Math.abs(cell / 6 - 4);
                TubBites t = of("tub 6 by 6;odds free 10*far;" + apple('a', cell % 6, cell / 6) + bobber('a', 1, 4, reach, 0));
                int far = across > up ? across : up;
                due("reach " + reach + " to " + cell, t.odds(0, 0, FREE), far <= reach ? 10 * far : -1);
            }
        }
    }

    @Says({"t2: he has that BREATH,"})
    private static void heHasThatBreath() {
        for (int breath = 0; breath <= 4; breath++) {
            TubBites t = of("tub 3 by 1;apple a at 1 0 size 9 soft 0 stalk;" + apple('b', 2, 0) + bobber('a', 0, 0, 2, breath));
            due("free with " + breath, t.odds(0, 0, FREE), 50);
            due("stalk with " + breath, t.odds(0, 0, STALK), 50);
            due("wall with " + breath, t.odds(0, 0, WALL), breath >= 1 ? 50 : -1);
            due("ground with " + breath, t.odds(0, 0, GROUND), breath >= 3 ? 50 : -1);
            due("lean with " + breath, t.odds(0, 0, LEAN), 50);
        }
        TubBites spent = of("tub 1 by 1;" + MISS + apple('a', 0, 0) + bobber('a', 0, 0, 0, 3));
        due("go(0, 0, 3)", spent.go(0, 0, GROUND), 0);
        due("of what he has now", spent.odds(0, 0, WALL), -1);
        due("free", spent.odds(0, 0, FREE), 0);
    }

    @Says({"t2: for stalk it has one,"})
    private static void forStalkItHasOne() {
        TubBites t = of("tub 2 by 1;apple a at 0 0 size 9 soft 0 stalk;" + apple('b', 1, 0) + bobber('a', 0, 0, 1, 0));
        due("odds(0, 0, 1)", t.odds(0, 0, STALK), 50);
        due("odds(0, 1, 1)", t.odds(0, 1, STALK), -1);
        due("go(0, 1, 1)", t.go(0, 1, STALK), -1);
    }

    @Says({"t2: for wall it is in a CELL at the rim of the tub,"})
    private static void forWallItIsAtTheRim() {
        for (int cell = 0; cell < 20; cell++) {
            int x = cell % 5;
            int y = cell / 5;
            boolean isRim = x == 0 || x == 4 || y == 0 || y == 3;
            TubBites t = of("tub 5 by 4;" + apple('a', x, y) + bobber('a', 2, 2, 5, 1));
            due("wall at " + x + " " + y, t.odds(0, 0, WALL), isRim ? 50 : -1);
        }
        for (String tub : new String[] {"tub 1 by 6;", "tub 2 by 6;", "tub 3 by 1;"}) {
            due("all is rim in " + tub, of(tub + apple('a', 0, 0) + bobber('a', 0, 0, 5, 1)).odds(0, 0, WALL), 50);
        }
        TubBites moved = of("tub 3 by 3;" + apple('a', 1, 1) + bobber('a', 1, 1, 5, 1));
        due("in the middle", moved.odds(0, 0, WALL), -1);
        moved.wave(2);
        due("at the rim now", moved.odds(0, 0, WALL), 50);
    }

    private static int leans(String apples, int x, int y) {
        return of("tub 5 by 5;" + apples + bobber('a', x, y, 5, 0)).odds(0, 0, LEAN);
    }

    @Says({"t2: for lean there is an APPLE in the CELL into which it would be PUSHED."})
    private static void forLeanThereIsAnApple() {
        String two = apple('a', 2, 2) + apple('b', 3, 2);
        due("behind it", leans(two, 0, 2), 50);
        due("behind it, as far across as up", leans(two, 0, 0), 50);
        due("not behind it", leans(two, 4, 2), -1);
        due("not behind it: up", leans(two, 2, 0), -1);
        due("where he is", leans(two, 2, 2), -1);
        due("two behind it", leans(apple('a', 2, 2) + apple('b', 4, 2), 0, 2), -1);
        due("above it", leans(apple('a', 2, 2) + apple('b', 2, 3), 2, 1), 50);
        due("below it", leans(apple('a', 2, 2) + apple('b', 2, 1), 1, 4), 50);
        due("at the wall no cell", leans(apple('a', 4, 2) + apple('b', 3, 2), 0, 2), -1);
        due("the next one can't go on, but it is there", leans(apple('a', 3, 2) + apple('b', 4, 2), 0, 2), 50);
        TubBites t = of("tub 5 by 5;" + GET + two + bobber('a', 0, 2, 5, 0));
        t.go(0, 1, FREE);
        due("it is out", t.odds(0, 0, LEAN), -1);
    }

    private static int odds(String e) {
        return of("tub 3 by 3;odds free " + e + ";apple a at 1 1 size 50 soft 3 stalk;apple b at 0 1 size 1 soft 0;"
            + "bobber a at 1 0 reach 1 breath 7 mouth 4;").odds(0, 0, FREE);
    }

    @Says({"t2: ODDS: what comes of the odds of that KIND, 0 at least, 100 at most"})
    private static void noughtAtLeastAHundredAtMost() {
        int[][] due = {{0, 1, 0}, {0, 9999, 0}, {0, 0, 0}, {1, 0, 1}, {99, 0, 99}, {100, 0, 100}, {101, 0, 100}, {9999, 0, 100}};
        for (int[] row : due) {
            due("odds", odds(row[0] + "-" + row[1]), row[2]);
        }
        TubBites t = of("tub 3 by 1;odds free 1;odds stalk 2;odds wall 3;odds ground 4;odds lean 5;"
            + "apple a at 1 0 size 9 soft 0 stalk;" + apple('b', 2, 0) + bobber('a', 0, 0, 2, 3));
        for (int kind = 0; kind < 5; kind++) {
            due("of that kind " + kind, t.odds(0, 0, kind), kind + 1);
        }
    }

    @Says({"t2: (size as it is now, soft of the APPLE; stalk, wall: 1 if it has one, is at the rim, else 0; far; "
        + "tries: how often it was MISSED; mouth, breath that he has now; kind, odds 0;"})
    private static void whatAFormulaSees() {
        due("size", odds("size"), 50);
        due("soft", odds("soft"), 3);
        due("stalk", odds("10*stalk+1"), 11);
        due("not at the rim", odds("10*wall+1"), 1);
        due("far", odds("10*far"), 10);
        due("tries", odds("tries+1"), 1);
        due("mouth", odds("mouth"), 4);
        due("breath", odds("breath"), 7);
        TubBites t = of("tub 3 by 3;" + "odds free 0-1;odds stalk size*0+tries+10*wall+20*stalk;odds ground kind+odds+breath;odds wall kind+odds+size;"
            + "bite 1;apple a at 1 1 size 50 soft 1 stalk;apple b at 2 2 size 5 soft 0;bobber a at 1 0 reach 2 breath 7 mouth 4;");
        due("kind and odds are 0 for ground", t.odds(0, 0, GROUND), 7);
        due("kind and odds are 0 for wall", t.odds(0, 1, WALL), 5);
        due("no tries", t.odds(0, 0, STALK), 20);
        due("a miss", t.go(0, 0, FREE), 0);
        due("at the rim now, one try", t.odds(0, 0, STALK), 31);
        due("size as it is now", t.odds(0, 0, WALL), 45);
        due("draw 79", t.go(0, 0, WALL), 0);
        due("breath that he has now", t.odds(0, 0, GROUND), 6);
        due("two tries", t.odds(0, 0, STALK), 32);
    }

    @Says({"t2: stalk, wall: 1 if it has one, is at the rim, else 0;"})
    private static void noStalkNoRim() {
        TubBites t = of("tub 3 by 3;odds free 10*stalk+wall;" + apple('a', 1, 1) + apple('b', 2, 1)
            + "apple c at 1 2 size 1 soft 0 stalk;" + bobber('a', 1, 1, 2, 0));
        due("neither", t.odds(0, 0, FREE), 0);
        due("at the rim", t.odds(0, 1, FREE), 1);
        due("both", t.odds(0, 2, FREE), 11);
    }

    @Says({"t2: ints, wrapping;"})
    private static void intsWrap() {
        due("2 to the 32nd", odds("4096*4096*256+5"), 5);
        due("2 to the 31st is below 0", odds("9*(4096*4096*128<0)"), 9);
        due("and 1 less above it", odds("9*(4096*4096*128-1>0)"), 9);
        due("the least by 0-1 is the least", odds("9*(4096*4096*128/(0-1)=4096*4096*128)"), 9);
        due("its rest is 0", odds("9+4096*4096*128%(0-1)"), 9);
        due("9999 thrice", odds("0-9999*9999*9999/9999/1400"), 73);
        due("0 less the least", odds("9*(0-4096*4096*128=4096*4096*128)"), 9);
    }

    @Says({"t2: both by 0: 0;"})
    private static void byNought() {
        due("/ 0", odds("8+7/0"), 8);
        due("% 0", odds("8+7%0"), 8);
        due("0/0", odds("8+0/0"), 8);
        due("0%0", odds("8+0%0"), 8);
        due("/ tries", odds("8+size/tries"), 8);
        due("% tries", odds("8+size%tries"), 8);
        due("/ 0 in a rule", of("tub 2 by 1;rule a size/tries;" + apple('a', 0, 0) + apple('b', 1, 0) + bobber('a', 0, 0, 1, 0)).chooses(0), 0);
    }

    @Says({"t2: / cut, % its rest,"})
    private static void cutAndRest() {
        due("7/2", odds("7/2"), 3);
        due("below 0 it is cut, too", odds("10+(0-7)/2"), 7);
        due("by what is below 0", odds("10+7/(0-2)"), 7);
        due("7%4", odds("7%4"), 3);
        due("the rest of what is below 0", odds("10+(0-7)%4"), 7);
        due("the rest by what is below 0", odds("10+7%(0-4)"), 13);
    }

    @Says({"t2: relations, and, or, not are 1 or 0, of what is not 0)."})
    private static void oneOrNought() {
        String[] ones = {"2<3", "3>2", "2=2", "5 and 7", "0 or 7", "7 or 0", "5 or 7", "not 0", "not not 5", "(0-3) and 2", "not 0 and 2",
            "0-1<0"};
        String[] noughts = {"2<2", "3<2", "2>2", "2>3", "2=3", "0 and 7", "7 and 0", "0 and 0", "0 or 0", "not 5", "not (0-5)", "not 1 or 0"};
        for (String e : ones) {
            due(e, odds("10*(" + e + ")+1"), 11);
        }
        for (String e : noughts) {
            due(e, odds("10*(" + e + ")+1"), 1);
        }
    }

    @Says({"8: ODDS of a TRY; NONE if he can't do it,"})
    private static void noOddsIfHeCant() {
        TubBites t = of("tub 4 by 1;odds free 33;" + apple('a', 1, 0) + apple('b', 3, 0) + bobber('a', 0, 0, 2, 0));
        due("he can", t.odds(0, 0, FREE), 33);
        for (int kind = 1; kind < 5; kind++) {
            due("kind " + kind, t.odds(0, 0, kind), -1);
        }
        due("out of reach", t.odds(0, 1, FREE), -1);
    }

    @Says({"8: or one can't be."})
    private static void noOddsOfNone() {
        TubBites t = of("tub 4 by 1;" + apple('a', 1, 0) + bobber('a', 0, 0, 2, 9));
        for (int no : beyond(0, 0)) {
            due("odds(" + no + ", 0, 0)", t.odds(no, 0, 0), -1);
            due("odds(0, " + no + ", 0)", t.odds(0, no, 0), -1);
        }
        for (int kind : beyond(0, 4)) {
            due("odds(0, 0, " + kind + ")", t.odds(0, 0, kind), -1);
        }
        due("of a new object", new TubBites().odds(0, 0, 0), -1);
    }

    // Choices: promise 9

    @Says({"t2: A RULE CHOOSES of all TRIES that a BOBBER can do now that of which its e is the greatest (as above; kind, odds: of that TRY);",
        "9: What his RULE CHOOSES: 10 * the APPLE and the KIND;"})
    private static void theGreatest() {
        String tub = "tub 4 by 1;odds free 10*size;odds wall 70;odds ground 40;rule a odds;rule b kind;rule c 0-odds;rule d 0-kind-far;"
            + "apple a at 1 0 size 5 soft 0;apple b at 2 0 size 6 soft 0;apple c at 3 0 size 9 soft 0;";
        int[] due = {2, 4, 3, 0};
        for (int rule = 0; rule < 4; rule++) {
            TubBites t = of(tub + "bobber a at 0 0 reach 2 breath 3 mouth 0 by " + (char) ('a' + rule) + ";");
            due("by rule " + rule, t.chooses(0), due[rule]);
        }
        TubBites t = of(tub + "bobber a at 0 0 reach 2 breath 0 mouth 0;");
        due("of what he can do now", t.chooses(0), 10);
    }

    @Says({"t2: that of which its e is the greatest", "9: What his RULE CHOOSES:"})
    private static void byTheOnlyRule() {
        TubBites t = of("tub 3 by 1;rule a size;apple a at 0 0 size 1 soft 0;apple b at 1 0 size 2 soft 0;" + bobber('a', 0, 0, 2, 0));
        due("one rule", t.chooses(0), 10);
        due("party(1)", t.party(1), 1);
        due("it has the greater one", t.apple(1, 2), 0);
    }

    @Says({"t2: (as above; kind, odds: of that TRY);", "t2: kind, odds 0;"})
    private static void oddsThatARuleSees() {
        String tub = "tub 1 by 1;odds free 30;odds stalk 20+odds;odds wall 20*kind;odds ground odds;apple a at 0 0 size 1 soft 0 stalk;";
        due("30 by the first", of(tub + "rule a odds;" + bobber('a', 0, 0, 0, 3)).chooses(0), 0);
        due("the least is the third", of(tub + "rule a 0-odds;" + bobber('a', 0, 0, 0, 2)).chooses(0), 2);
        due("20 by the second", of(tub + "rule a odds=20;" + bobber('a', 0, 0, 0, 3)).chooses(0), 1);
        due("kind of that try", of(tub + "rule a kind=3;" + bobber('a', 0, 0, 0, 3)).chooses(0), 3);
    }

    @Says({"t2: of like ones the first (APPLE, then KIND);"})
    private static void ofLikeTriesTheFirst() {
        String apples = "apple a at 3 0 size 5 soft 0 stalk;apple b at 1 0 size 5 soft 0 stalk;apple c at 0 0 size 5 soft 0 stalk;";
        TubBites t = of("tub 4 by 1;rule a 1;rule b kind>0;rule c size<0-far;" + apples + bobber('a', 0, 0, 1, 3)
            + "bobber b at 0 0 reach 3 breath 3 mouth 0 by b;bobber c at 0 0 reach 0 breath 3 mouth 0 by c;");
        due("the first apple in reach", t.chooses(0), 10);
        due("its first kind", t.chooses(1), 1);
        due("all are 0", t.chooses(2), 20);
    }

    @Says({"t2: of like ones the first (APPLE, then KIND);"})
    private static void theGreatestMayBeTheLeastInt() {
        TubBites t = of("tub 3 by 1;rule a 4096*4096*128+(kind=2);rule b 4096*4096*128;" + apple('a', 0, 0) + apple('b', 1, 0)
            + bobber('a', 0, 0, 1, 3) + "bobber b at 1 0 reach 0 breath 0 mouth 0 by b;");
        due("1 above the least", t.chooses(0), 2);
        due("the least", t.chooses(1), 10);
    }

    @Says({"t2: he BREATHES, if there is none.", "9: NONE if he BREATHES;"})
    private static void heBreathesIfThereIsNone() {
        TubBites t = of("tub 3 by 1;rule a 1;" + GET + apple('a', 1, 0) + bobber('a', 0, 0, 0, 3) + bobber('b', 0, 0, 1, 3));
        due("none in reach", t.chooses(0), -1);
        due("one in reach", t.chooses(1), 0);
        t.go(1, 0, FREE);
        due("none left", t.chooses(1), -1);
        due("party(1)", t.party(1), 0);
        due("they breathed", t.bobber(0, 2), 2);
    }

    @Says({"t2: (Without RULES each takes the first one.)"})
    private static void withoutRulesTheFirst() {
        TubBites t = of("tub 4 by 1;odds free 0;odds wall 100;apple a at 3 0 size 5 soft 0;apple b at 1 0 size 5 soft 0 stalk;"
            + bobber('a', 0, 0, 1, 3) + bobber('b', 3, 0, 2, 3));
        due("the first in reach", t.chooses(0), 10);
        due("the first", t.chooses(1), 0);
        due("party(1)", t.party(1), 0);
        due("by free tries", t.record(0, FREE, 0) + t.record(1, FREE, 0), 2);
        TubBites lean = of("tub 4 by 1;odds lean size+kind;apple a at 0 0 size 1 soft 0;apple b at 1 0 size 9 soft 0;" + bobber('a', 0, 0, 2, 3));
        due("no odds are a rule", lean.chooses(0), 0);
    }

    @Says({"9: -2 if there is none such."})
    private static void noSuchChooser() {
        TubBites t = of("tub 4 by 1;rule a 1;" + apple('a', 1, 0) + bobber('a', 0, 0, 1, 3));
        for (int bobber : beyond(0, 0)) {
            due("chooses(" + bobber + ")", t.chooses(bobber), -2);
        }
        due("of a new object", new TubBites().chooses(0), -2);
    }

    // In earnest: promise 10

    @Says({"t2: In earnest the SEED (draw, at first) becomes its 137-fold and 71 more, modulo 1,000:"})
    private static void theSeed() {
        TubBites t = of("tub 1 by 1;" + MISS + apple('a', 0, 0) + bobber('a', 0, 0, 0, 9));
        int[] seeds = {71, 798, 397, 460, 91, 538, 777, 520, 311, 678};
        due("0 at first", t.about(6), 0);
        for (int seed : seeds) {
            t.go(0, 0, FREE);
            due("about(6)", t.about(6), seed);
        }
        t.breathe(0);
        t.wave(0);
        due("not by other acts", t.about(6), 678);
        TubBites last = of("tub 1 by 1;draw 999;" + apple('a', 0, 0) + bobber('a', 0, 0, 0, 9));
        last.go(0, 0, FREE);
        due("behind 999", last.about(6), 934);
    }

    @Says({"t2: if a tenth of it, cut, is below the ODDS, he has GOT the APPLE: it is out;", "10: A TRY: 1 if he has GOT it, else 0;"})
    private static void aTenthBelowTheOdds() {
        int[] odds = {0, 1, 7, 8, 50, 99, 100};
        boolean[] seen = new boolean[100];
        for (int draw = 0; draw < 1000; draw += 3) {
            int tenth = (draw * 137 + 71) % 1000 / 10;
            seen[tenth] = true;
            for (int o : odds) {
                TubBites t = of("tub 1 by 1;odds ground " + o + ";draw " + draw + ";" + apple('a', 0, 0) + bobber('a', 0, 0, 0, 9));
                due("tenth " + tenth + ", odds " + o, t.go(0, 0, GROUND), tenth < o ? 1 : 0);
                due("who has it", t.apple(0, 2), tenth < o ? 0 : -1);
                due("in the tub", t.about(3), tenth < o ? 0 : 1);
                due("missed", t.apple(0, 3), tenth < o ? 0 : 1);
            }
        }
        for (int tenth : new int[] {0, 1, 7, 8, 50, 99}) {
            due("a tenth of " + tenth + " was there", seen[tenth], true);
        }
    }

    /** A miss by such a mouth: its size behind it, or -1 if it is eaten and out. */
    private static int bitten(int size, int soft, int bite, int mouth) {
        TubBites t = of("tub 3 by 1;" + MISS + "bite " + bite + ";apple a at 1 0 size " + size + " soft " + soft
            + ";bobber a at 0 0 reach 1 breath 0 mouth " + mouth + ";");
        due("a miss", t.go(0, 0, FREE), 0);
        due("missed", t.apple(0, 3), 1);
        due("it is out", t.about(3), t.apple(0, 2) == 9 ? 0 : 1);
        if (t.apple(0, 2) == 9) {
            due("its size is 0", t.apple(0, 4), 0);
            return -1;
        }
        return t.apple(0, 4);
    }

    @Says({"t2: else it is MISSED: by a free TRY, if its soft is not below bite, a PIECE comes off"})
    private static void softNotBelowBite() {
        due("soft is bite", bitten(9, 4, 4, 1), 7);
        due("soft above bite", bitten(9, 5, 4, 1), 7);
        due("soft below bite", bitten(9, 3, 4, 1), 9);
        due("0 and 0", bitten(9, 0, 0, 1), 7);
        due("9 and 9", bitten(9, 9, 9, 1), 7);
        TubBites t = of("tub 3 by 1;" + MISS + "bite 0;apple a at 1 0 size 9 soft 9 stalk;apple b at 2 0 size 9 soft 9;" + bobber('a', 0, 0, 2, 9));
        for (int kind : new int[] {WALL, GROUND, LEAN, STALK}) {
            due("a miss", t.go(0, 0, kind), 0);
            due("no piece by kind " + kind, t.apple(0, 4), 9);
        }
        due("free", t.go(0, 0, FREE), 0);
        due("a piece", t.apple(0, 4), 8);
    }

    @Says({"t2: (its size is less by his mouth and 1; if that is 0 or less, its size is 0, it is EATEN, and out);"})
    private static void noughtOrLessIsEaten() {
        due("1 is left", bitten(5, 0, 0, 3), 1);
        due("just 0", bitten(4, 0, 0, 3), -1);
        due("less than 0", bitten(3, 0, 0, 3), -1);
        due("far less than 0", bitten(1, 0, 0, 9), -1);
        due("mouth 0: 1", bitten(2, 0, 0, 0), 1);
        due("mouth 0: 0", bitten(1, 0, 0, 0), -1);
        due("size 99", bitten(99, 0, 0, 9), 89);
    }

    @Says({"t2: by a free or stalk TRY it is PUSHED, if it is not EATEN,"})
    private static void pushedByFreeOrStalk() {
        for (int kind = 0; kind < 5; kind++) {
            TubBites t = of("tub 4 by 1;" + MISS + "apple a at 1 0 size 9 soft 0 stalk;" + apple('b', 2, 0) + bobber('a', 0, 0, 1, 9));
            due("a miss", t.go(0, 0, kind), 0);
            at(t, kind < 2 ? 2 : 1, 0, kind < 2 ? 3 : 2, 0);
            TubBites got = of("tub 4 by 1;" + GET + "apple a at 1 0 size 9 soft 0 stalk;" + apple('b', 2, 0) + bobber('a', 0, 0, 1, 9));
            due("got", got.go(0, 0, kind), 1);
            at(got, 1, 0, 2, 0);
        }
        TubBites eaten = of("tub 4 by 1;" + MISS + "bite 0;apple a at 1 0 size 1 soft 0;" + apple('b', 2, 0) + bobber('a', 0, 0, 1, 9));
        due("eaten", eaten.go(0, 0, FREE), 0);
        at(eaten, 1, 0, 2, 0);
    }

    @Says({"t2: away from him: across if it is as far across as up or more, else up (not if it is where he is):"})
    private static void awayFromHim() {
        // by rows from y 0 on, he kneels at 2 2: l, r, d, u are the sides, s stays
        String[] rows = {"ldddr", "lldrr", "llsrr", "llurr", "luuur"};
        for (int y = 0; y < 5; y++) {
            for (int x = 0; x < 5; x++) {
                char side = rows[y].charAt(x);
                int nextX = x + (side == 'l' ? -1 : side == 'r' ? 1 : 0);
                int nextY = y + (side == 'd' ? -1 : side == 'u' ? 1 : 0);
                boolean isCell = nextX >= 0 && nextX < 5 && nextY >= 0 && nextY < 5;
                TubBites t = of("tub 5 by 5;" + MISS + apple('a', x, y) + bobber('a', 2, 2, 5, 9));
                due("a miss", t.go(0, 0, FREE), 0);
                at(t, isCell ? nextX : x, isCell ? nextY : y);
            }
        }
    }

    private static void pushed(String tub, int... cells) {
        TubBites t = of(tub);
        due("a miss", t.go(0, 0, FREE), 0);
        at(t, cells);
        for (int apple = 1; 2 * apple < cells.length; apple++) {
            due("only one is missed", t.apple(apple, 3), 0);
        }
    }

    @Says({"t2: into the next CELL, if there is one, and that is free,"})
    private static void intoTheNextCell() {
        String miss = "tub 4 by 3;" + MISS;
        pushed(miss + apple('a', 1, 1) + bobber('a', 0, 1, 5, 0), 2, 1);
        pushed(miss + apple('a', 3, 1) + bobber('a', 0, 1, 5, 0), 3, 1);
        pushed(miss + apple('a', 0, 1) + bobber('a', 3, 1, 5, 0), 0, 1);
        pushed(miss + apple('a', 1, 2) + bobber('a', 1, 0, 5, 0), 1, 2);
        pushed(miss + apple('a', 1, 0) + bobber('a', 1, 2, 5, 0), 1, 0);
        pushed("tub 1 by 1;" + MISS + apple('a', 0, 0) + bobber('a', 0, 0, 0, 0), 0, 0);
        TubBites out = of("tub 3 by 1;odds free 8;" + apple('a', 1, 0) + apple('b', 2, 0) + bobber('a', 0, 0, 5, 0));
        due("draw 7: got", out.go(0, 1, FREE), 1);
        due("draw 79", out.go(0, 0, FREE), 0);
        at(out, 2, 0, 2, 0);
    }

    @Says({"t2: or the APPLE there can be PUSHED likewise ahead of it;"})
    private static void aRowIsPushed() {
        pushed("tub 6 by 1;" + MISS + apple('a', 1, 0) + apple('b', 4, 0) + apple('c', 2, 0) + apple('d', 3, 0) + bobber('a', 0, 0, 5, 0),
            2, 0, 5, 0, 3, 0, 4, 0);
        pushed("tub 6 by 1;" + MISS + apple('a', 1, 0) + apple('b', 2, 0) + apple('c', 4, 0) + bobber('a', 0, 0, 5, 0), 2, 0, 3, 0, 4, 0);
        pushed("tub 1 by 6;" + MISS + apple('a', 0, 4) + apple('b', 0, 3) + apple('c', 0, 2) + apple('d', 0, 1) + bobber('a', 0, 5, 5, 0),
            0, 3, 0, 2, 0, 1, 0, 0);
        // likewise: on its own way away from him they would go up
        pushed("tub 4 by 4;" + MISS + apple('a', 1, 1) + apple('b', 2, 1) + bobber('a', 0, 0, 5, 0), 2, 1, 3, 1);
        pushed("tub 4 by 4;" + MISS + apple('a', 1, 2) + apple('b', 1, 3) + bobber('a', 2, 0, 5, 0), 1, 2, 1, 3);
    }

    @Says({"t2: else it stays."})
    private static void aFullRowStays() {
        pushed("tub 6 by 1;" + MISS + apple('a', 1, 0) + apple('b', 2, 0) + apple('c', 3, 0) + apple('d', 4, 0)
            + apple('e', 5, 0) + bobber('a', 0, 0, 5, 0), 1, 0, 2, 0, 3, 0, 4, 0, 5, 0);
        pushed("tub 6 by 1;" + MISS + apple('a', 4, 0) + apple('b', 3, 0) + apple('c', 2, 0) + apple('d', 1, 0) + apple('e', 0, 0)
            + bobber('a', 5, 0, 5, 0), 4, 0, 3, 0, 2, 0, 1, 0, 0, 0);
        pushed("tub 6 by 2;" + MISS + apple('a', 5, 0) + bobber('a', 0, 0, 5, 0), 5, 0);
        pushed("tub 2 by 6;" + MISS + apple('a', 0, 4) + apple('b', 0, 5) + bobber('a', 0, 0, 5, 0), 0, 4, 0, 5);
    }

    /** An act is kept, can be undone, and what was undone ahead of it can't be done again. */
    private static void isAnAct(TubBites t, int act) {
        t.wave(0);
        t.undo();
        int seconds = t.bobber(0, 2);
        int answer = act == 0 ? t.go(0, 0, FREE) : act == 1 ? t.breathe(0) : act == 2 ? t.wave(1) : t.party(1);
        due("it was done", answer >= 0, true);
        due("about(7)", t.about(7), 1);
        due("about(8)", t.about(8), 0);
        due("redo()", t.redo(), false);
        due("undo()", t.undo(), true);
        due("as it was", t.bobber(0, 2), seconds);
        due("redo()", t.redo(), true);
        due("undo()", t.undo(), true);
        due("undo()", t.undo(), false);
    }

    private static TubBites oneOfEach() {
        return of("tub 3 by 1;" + apple('a', 1, 0) + bobber('a', 0, 0, 2, 3));
    }

    @Says({"10: (An ACT.)"})
    private static void goIsAnAct() {
        isAnAct(oneOfEach(), 0);
    }

    @Says({"11: (An ACT.)"})
    private static void breathingIsAnAct() {
        isAnAct(oneOfEach(), 1);
    }

    @Says({"12: (An ACT.)"})
    private static void aWaveIsAnAct() {
        isAnAct(oneOfEach(), 2);
    }

    @Says({"13: (An ACT.)"})
    private static void aPartyIsAnAct() {
        isAnAct(oneOfEach(), 3);
    }

    @Says({"10: NONE, doing nothing, if he can't do it,"})
    private static void goDoesNothingIfHeCant() {
        TubBites t = of("tub 4 by 1;" + apple('a', 1, 0) + apple('b', 3, 0) + bobber('a', 0, 0, 2, 0));
        due("an act", t.wave(0), 2);
        t.undo();
        for (int kind = 1; kind < 5; kind++) {
            due("go(0, 0, " + kind + ")", t.go(0, 0, kind), -1);
        }
        due("out of reach", t.go(0, 1, FREE), -1);
        due("about(6)", t.about(6), 0);
        due("about(7)", t.about(7), 0);
        due("about(8)", t.about(8), 1);
        due("bobber(0, 2)", t.bobber(0, 2), 0);
        due("record(0, 0, 0)", t.record(0, 0, 0), 0);
        due("apple(1, 3)", t.apple(1, 3), 0);
        due("he can", t.go(0, 0, FREE), 1);
        due("that is an act", t.about(7), 1);
        due("nothing can be done again", t.about(8), 0);
    }

    @Says({"10: or one can't be."})
    private static void goByNone() {
        TubBites t = of("tub 4 by 1;" + apple('a', 1, 0) + bobber('a', 0, 0, 2, 9));
        for (int no : beyond(0, 0)) {
            due("go(" + no + ", 0, 0)", t.go(no, 0, 0), -1);
            due("go(0, " + no + ", 0)", t.go(0, no, 0), -1);
        }
        for (int kind : beyond(0, 4)) {
            due("go(0, 0, " + kind + ")", t.go(0, 0, kind), -1);
        }
        due("about(6)", t.about(6), 0);
        due("about(7)", t.about(7), 0);
        due("of a new object", new TubBites().go(0, 0, 0), -1);
    }

    // Promises 11 to 13

    @Says({"11: He BREATHES: his BREATH;", "t2: ACTS: a TRY; he BREATHES: 2 SECONDS, BREATH is as told;"})
    private static void heBreathes() {
        TubBites t = of("tub 1 by 1;" + MISS + apple('a', 0, 0) + bobber('a', 0, 0, 0, 5));
        due("go(0, 0, 3)", t.go(0, 0, GROUND), 0);
        due("breathe(0)", t.breathe(0), 5);
        due("bobber(0, 0)", t.bobber(0, 0), 5);
        due("bobber(0, 2)", t.bobber(0, 2), 5);
        due("about(7)", t.about(7), 2);
        due("with all his breath", t.breathe(0), 5);
        due("bobber(0, 2)", t.bobber(0, 2), 7);
        due("about(7)", t.about(7), 3);
        due("undo()", t.undo(), true);
        due("bobber(0, 2)", t.bobber(0, 2), 5);
        due("breath 0", of("tub 1 by 1;" + bobber('a', 0, 0, 0, 0)).breathe(0), 0);
    }

    @Says({"11: NONE, doing nothing, if there is none such."})
    private static void noneBreathes() {
        TubBites t = of("tub 1 by 1;" + bobber('a', 0, 0, 0, 5));
        t.breathe(0);
        t.undo();
        for (int bobber : beyond(0, 0)) {
            due("breathe(" + bobber + ")", t.breathe(bobber), -1);
        }
        due("about(7)", t.about(7), 0);
        due("about(8)", t.about(8), 1);
        due("of a new object", new TubBites().breathe(0), -1);
    }

    @Says({"t2: a WAVE to a side (0 left, 1 right, 2 up: more y, 3 down):", "12: A WAVE: how many APPLES went on;"})
    private static void aWaveToASide() {
        int[][] cells = {{1, 2}, {3, 2}, {2, 3}, {2, 1}};
        for (int side = 0; side < 4; side++) {
            TubBites t = of("tub 5 by 5;" + apple('a', 2, 2));
            due("wave(" + side + ")", t.wave(side), 1);
            at(t, cells[side]);
            due("about(7)", t.about(7), 1);
            due("undo()", t.undo(), true);
            at(t, 2, 2);
        }
    }

    @Says({"t2: each APPLE goes one CELL, if that is there and free,"})
    private static void oneCellIfItIsThereAndFree() {
        int[][] cells = {{0, 1}, {2, 1}, {1, 2}, {1, 0}};
        for (int side = 0; side < 4; side++) {
            TubBites t = of("tub 3 by 3;" + apple('a', 1, 1));
            due("wave(" + side + ")", t.wave(side), 1);
            due("it is at the wall", t.wave(side), 0);
            at(t, cells[side]);
            due("an act all the same", t.about(7), 2);
        }
        TubBites full = of("tub 3 by 2;" + numbered("apple a# at @ size 1 soft 0;", 3).replace("at 3 0", "at 0 1"));
        due("a full row", full.wave(0), 0);
        due("a full row", full.wave(1), 0);
        due("up all go", full.wave(2), 3);
        TubBites out = of("tub 3 by 1;" + GET + apple('a', 0, 0) + apple('b', 1, 0) + apple('c', 2, 0) + bobber('a', 0, 0, 0, 0));
        out.go(0, 0, FREE);
        due("what is out does not stand in the way, nor go", out.wave(0), 2);
        at(out, 0, 0, 0, 0, 1, 0);
        due("an empty tub", new TubBites().wave(3), 0);
        due("no apples", of("tub 3 by 1;").wave(3), 0);
    }

    @Says({"t2: those nearest that side first (of like ones the less x, then y);"})
    private static void thoseNearestThatSideFirst() {
        String apples = apple('a', 3, 0) + apple('b', 2, 0) + apple('c', 1, 0);
        TubBites left = of("tub 4 by 4;" + apples);
        due("left: all go", left.wave(0), 3);
        at(left, 2, 0, 1, 0, 0, 0);
        due("left: none goes", left.wave(0), 0);
        due("right: all go", left.wave(1), 3);
        at(left, 3, 0, 2, 0, 1, 0);
        TubBites right = of("tub 4 by 4;" + apple('a', 0, 3) + apple('b', 1, 3) + apple('c', 2, 3) + apple('d', 2, 2));
        due("right: all go", right.wave(1), 4);
        at(right, 1, 3, 2, 3, 3, 3, 3, 2);
        due("right: none goes", right.wave(1), 0);
        TubBites up = of("tub 1 by 4;" + apple('a', 0, 0) + apple('b', 0, 1) + apple('c', 0, 2));
        due("up: all go", up.wave(2), 3);
        at(up, 0, 1, 0, 2, 0, 3);
        due("down: all go", up.wave(3), 3);
        at(up, 0, 0, 0, 1, 0, 2);
        TubBites gap = of("tub 6 by 1;" + apple('a', 0, 0) + apple('b', 2, 0) + apple('c', 3, 0) + apple('d', 5, 0));
        due("left: b and c and d go", gap.wave(0), 3);
        at(gap, 0, 0, 1, 0, 2, 0, 4, 0);
        due("left: d goes", gap.wave(0), 1);
        at(gap, 0, 0, 1, 0, 2, 0, 3, 0);
    }

    @Says({"12: NONE, doing nothing, if there is no such side."})
    private static void noSuchSide() {
        TubBites t = of("tub 3 by 3;" + apple('a', 1, 1));
        t.wave(0);
        t.undo();
        for (int side : beyond(0, 3)) {
            due("wave(" + side + ")", t.wave(side), -1);
        }
        at(t, 1, 1);
        due("about(7)", t.about(7), 0);
        due("about(8)", t.about(8), 1);
    }

    @Says({"t2: a PARTY of so many TURNS: in each the BOBBERS by number do what their RULE CHOOSES.",
        "13: A PARTY of so many TURNS (0 .. 20): how many APPLES were GOT in it;"})
    private static void aParty() {
        // draws 7, 79, 39, 46: the first gets, the second misses and pushes; then both get
        TubBites t = of("tub 5 by 1;odds free 50;rule a odds;rule b 0-size;" + apple('a', 0, 0) + apple('b', 1, 0)
            + "apple c at 3 0 size 1 soft 0;" + bobber('a', 0, 0, 1, 0) + "bobber b at 2 0 reach 2 breath 0 mouth 0 by b;");
        due("party(1)", t.party(1), 1);
        due("the first one's", t.apple(0, 2), 0);
        due("the second one's miss", t.apple(2, 3), 1);
        due("pushed", t.apple(2, 0), 4);
        due("party(1)", t.party(1), 2);
        due("the first one's", t.apple(1, 2), 0);
        due("the second one's", t.apple(2, 2), 1);
        due("about(6)", t.about(6), 460);
        due("about(7)", t.about(7), 2);
        due("undo()", t.undo(), true);
        due("undo()", t.undo(), true);
        due("both at once", t.party(2), 3);
        due("about(7)", t.about(7), 1);
        due("of this party alone", t.party(2), 0);
    }

    @Says({"13: (0 .. 20)"})
    private static void noTurnsOrTwenty() {
        TubBites t = of("tub 1 by 1;" + bobber('a', 0, 0, 0, 0));
        due("party(0)", t.party(0), 0);
        due("no seconds", t.bobber(0, 2), 0);
        due("an act", t.about(7), 1);
        due("party(20)", t.party(20), 0);
        due("20 breaths", t.bobber(0, 2), 40);
        due("about(7)", t.about(7), 2);
        due("without bobbers", of("tub 1 by 1;" + apple('a', 0, 0)).party(20), 0);
        due("in an empty tub", new TubBites().party(20), 0);
    }

    @Says({"13: NONE, doing nothing, for another number."})
    private static void anotherNumberOfTurns() {
        TubBites t = of("tub 1 by 1;" + bobber('a', 0, 0, 0, 0));
        t.party(1);
        t.undo();
        for (int turns : beyond(0, 20)) {
            due("party(" + turns + ")", t.party(turns), -1);
        }
        due("bobber(0, 2)", t.bobber(0, 2), 0);
        due("about(7)", t.about(7), 0);
        due("about(8)", t.about(8), 1);
    }

    // Promises 14 and 15

    @Says({"t2: UNDO takes back the latest ACT that was not,", "14: UNDO: true;"})
    private static void undoTakesBackTheLatest() {
        TubBites t = of("tub 3 by 1;odds free 8;odds ground 0;bite 0;" + apple('a', 1, 0) + apple('b', 2, 0) + bobber('a', 0, 0, 2, 3));
        t.go(0, 0, FREE);
        t.go(0, 1, GROUND);
        t.breathe(0);
        t.wave(0);
        due("undo()", t.undo(), true);
        due("the wave", t.apple(1, 0), 2);
        due("bobber(0, 0)", t.bobber(0, 0), 3);
        due("undo()", t.undo(), true);
        due("the breath", t.bobber(0, 0), 0);
        due("its seconds", t.bobber(0, 2), 4);
        due("undo()", t.undo(), true);
        due("the miss", t.apple(1, 3), 0);
        due("its record", t.record(0, GROUND, 0), 0);
        due("its breath", t.bobber(0, 0), 3);
        due("its draw", t.about(6), 71);
        due("apple(0, 2)", t.apple(0, 2), 0);
        due("undo()", t.undo(), true);
        due("the apple", t.apple(0, 2), -1);
        due("bobber(0, 1)", t.bobber(0, 1), 0);
        due("bobber(0, 2)", t.bobber(0, 2), 0);
        due("record(0, 0, 1)", t.record(0, FREE, 1), 0);
        due("record(0, 0, 2)", t.record(0, FREE, 2), 0);
        due("about(6)", t.about(6), 0);
        due("about(8)", t.about(8), 4);
    }

    @Says({"14: false if there is none."})
    private static void noneToUndo() {
        TubBites t = of("tub 3 by 1;" + apple('a', 1, 0));
        due("undo()", t.undo(), false);
        t.wave(0);
        due("undo()", t.undo(), true);
        due("undo()", t.undo(), false);
        at(t, 1, 0);
        due("about(8)", t.about(8), 1);
        due("of a new object", new TubBites().undo(), false);
    }

    @Says({"t2: REDO does that again which was taken back last", "15: REDO: true;"})
    private static void redoDoesItAgain() {
        TubBites t = of("tub 4 by 1;odds free 8;" + apple('a', 1, 0) + apple('b', 3, 0) + bobber('a', 0, 0, 3, 3));
        t.go(0, 0, FREE);
        t.go(0, 1, FREE);
        t.wave(0);
        t.undo();
        t.undo();
        t.undo();
        due("redo()", t.redo(), true);
        due("the first", t.apple(0, 2), 0);
        due("its draw", t.about(6), 71);
        due("redo()", t.redo(), true);
        due("the second", t.apple(1, 3), 1);
        due("its draw", t.about(6), 798);
        due("its record", t.record(0, FREE, 0), 2);
        due("about(7)", t.about(7), 2);
        due("about(8)", t.about(8), 1);
        due("undo()", t.undo(), true);
        due("taken back last", t.redo(), true);
        due("redo()", t.redo(), true);
        due("the third", t.apple(1, 0), 2);
        due("redo()", t.redo(), false);
    }

    @Says({"15: false if there is none."})
    private static void noneToRedo() {
        TubBites t = of("tub 3 by 1;" + apple('a', 1, 0));
        due("redo()", t.redo(), false);
        t.wave(0);
        due("redo()", t.redo(), false);
        t.undo();
        due("redo()", t.redo(), true);
        due("redo()", t.redo(), false);
        at(t, 0, 0);
        due("about(7)", t.about(7), 1);
        due("of a new object", new TubBites().redo(), false);
    }

    @Says({"t2: (till another ACT);"})
    private static void redoTillAnotherAct() {
        for (int act = 0; act < 4; act++) {
            TubBites t = of("tub 3 by 1;" + apple('a', 1, 0) + bobber('a', 0, 0, 2, 3));
            t.wave(0);
            t.wave(1);
            t.undo();
            t.undo();
            due("about(8)", t.about(8), 2);
            switch (act) {
                case 0:
                    due("go", t.go(0, 0, FREE), 1);
                    break;
                case 1:
                    due("breathe", t.breathe(0), 3);
                    break;
                case 2:
                    due("a wave by which none goes", t.wave(2), 0);
                    break;
                default:
                    due("a party of no turns", t.party(0), 0);
                    break;
            }
            due("about(7)", t.about(7), 1);
            due("about(8)", t.about(8), 0);
            due("redo()", t.redo(), false);
        }
    }

    @Says({"t2: 40 at most are kept, the oldest go."})
    private static void fortyActsAreKept() {
        TubBites t = of("tub 1 by 1;" + bobber('a', 0, 0, 0, 0));
        for (int i = 1; i <= 40; i++) {
            t.breathe(0);
            due("about(7)", t.about(7), i);
        }
        due("undo()", t.undo(), true);
        due("redo()", t.redo(), true);
        for (int i = 0; i < 3; i++) {
            t.breathe(0);
            due("about(7)", t.about(7), 40);
        }
        for (int i = 1; i <= 40; i++) {
            due("undo()", t.undo(), true);
            due("bobber(0, 2)", t.bobber(0, 2), 2 * (43 - i));
            due("about(7)", t.about(7), 40 - i);
            due("about(8)", t.about(8), i);
        }
        due("undo()", t.undo(), false);
        due("the oldest three went", t.bobber(0, 2), 6);
        for (int i = 1; i <= 40; i++) {
            due("redo()", t.redo(), true);
            due("bobber(0, 2)", t.bobber(0, 2), 2 * (3 + i));
        }
        due("redo()", t.redo(), false);
        for (int i = 0; i < 90; i++) {
            t.breathe(0);
        }
        for (int i = 1; i <= 40; i++) {
            due("undo()", t.undo(), true);
            due("bobber(0, 2)", t.bobber(0, 2), 2 * (133 - i));
        }
        due("undo()", t.undo(), false);
    }

    // Promises 20 and 21

    @Says({"t2: RECORDS of a BOBBER and a KIND: how many TRIES, how many GOT, their ODDS together (in earnest).",
        "20: RECORDS what 0: TRIES, 1: GOT, 2: their ODDS together;"})
    private static void recordsInEarnest() {
        TubBites t = of("tub 3 by 1;odds free 8;odds wall 79;odds ground 40;rule a 1;" + apple('a', 0, 0) + apple('b', 2, 0)
            + bobber('a', 0, 0, 2, 9) + bobber('b', 0, 0, 2, 9));
        for (int bobber = 0; bobber < 2; bobber++) {
            for (int kind = 0; kind < 5; kind++) {
                for (int what = 0; what < 3; what++) {
                    due("none yet", t.record(bobber, kind, what), 0);
                }
            }
        }
        due("draw 7", t.go(0, 0, FREE), 1);
        due("draw 79", t.go(0, 1, WALL), 0);
        due("draw 39", t.go(1, 1, GROUND), 1);
        t.match(0, 0);
        t.best(0, 4, 0);
        t.order(3);
        int[][] due = {{0, 0, 1, 1, 8}, {0, 2, 1, 0, 79}, {1, 3, 1, 1, 40}, {0, 3, 0, 0, 0}, {1, 0, 0, 0, 0}};
        for (int[] row : due) {
            for (int what = 0; what < 3; what++) {
                due("record(" + row[0] + ", " + row[1] + ", " + what + ")", t.record(row[0], row[1], what), row[2 + what]);
            }
        }
    }

    @Says({"t2: RECORDS of a BOBBER and a KIND:"})
    private static void eachRecordByItself() {
        TubBites t = of("tub 2 by 1;odds free 60;odds stalk 61;odds wall 62;odds ground 63;odds lean 64;apple a at 0 0 size 9 soft 0 stalk;"
            + numbered("bobber b# at 0 0 reach 0 breath 20 mouth 0;", 4));
        t.image(0);
        for (int bobber = 0; bobber < 4; bobber++) {
            for (int kind = 0; kind < 4; kind++) {
                due("draw 7", t.go(bobber, 0, kind), 1);
                for (int code = 0; code < 20; code++) {
                    boolean isIt = code / 5 == bobber && code % 5 == kind;
                    due("record(" + code / 5 + ", " + code % 5 + ", 0)", t.record(code / 5, code % 5, 0), isIt ? 1 : 0);
                    due("record(" + code / 5 + ", " + code % 5 + ", 2)", t.record(code / 5, code % 5, 2), isIt ? 60 + kind : 0);
                }
                t.back(0);
            }
        }
    }

    @Says({"t2: their ODDS together (in earnest)."})
    private static void partiesAreInEarnest() {
        TubBites t = of("tub 2 by 1;odds free 60-20*tries;rule a far;" + apple('a', 1, 0) + bobber('a', 0, 0, 1, 9) + "draw 71;");
        due("draws 79, 39", t.party(2), 1);
        due("tries", t.record(0, FREE, 0), 2);
        due("got", t.record(0, FREE, 1), 1);
        due("odds 60 and 40", t.record(0, FREE, 2), 100);
    }

    @Says({"20: NONE if one can't be."})
    private static void noRecordOfNone() {
        TubBites t = of("tub 2 by 1;" + apple('a', 1, 0) + bobber('a', 0, 0, 1, 9));
        for (int bobber : beyond(0, 0)) {
            due("record(" + bobber + ", 0, 0)", t.record(bobber, 0, 0), -1);
        }
        for (int kind : beyond(0, 4)) {
            due("record(0, " + kind + ", 0)", t.record(0, kind, 0), -1);
        }
        for (int what : beyond(0, 2)) {
            due("record(0, 0, " + what + ")", t.record(0, 0, what), -1);
            due("record(0, 4, " + what + ")", t.record(0, 4, what), -1);
        }
        due("of a new object", new TubBites().record(0, 0, 0), -1);
    }

    @Says({"21: How many APPLES that he can TRY free are easier (of greater ODDS free) than this one;"})
    private static void howManyAreEasier() {
        TubBites t = of("tub 6 by 1;odds free size;odds stalk 100;apple a at 0 0 size 30 soft 0;apple b at 1 0 size 31 soft 0;"
            + "apple c at 2 0 size 30 soft 0 stalk;apple d at 3 0 size 29 soft 0 stalk;apple e at 4 0 size 99 soft 0;" + bobber('a', 0, 0, 3, 0));
        int[] due = {1, 0, 1, 3};
        for (int apple = 0; apple < 4; apple++) {
            due("easier(0, " + apple + ")", t.easier(0, apple), due[apple]);
        }
        TubBites alike = of("tub 2 by 1;odds free 100+size;" + apple('a', 0, 0) + "apple b at 1 0 size 99 soft 0;" + bobber('a', 0, 0, 3, 0));
        due("100 at most", alike.easier(0, 0), 0);
        alike.go(0, 1, FREE);
        due("of those in the tub", alike.easier(0, 0), 0);
        TubBites ten = of("tub 6 by 2;odds free 100-10*far;" + numbered("apple a# at @ size 9 soft 0;", 10) + bobber('a', 0, 0, 5, 0));
        int[] easier = {0, 1, 4, 6, 8, 9, 1, 1, 4, 6};
        for (int apple = 0; apple < 10; apple++) {
            due("easier(0, " + apple + ") of ten", ten.easier(0, apple), easier[apple]);
        }
    }

    @Says({"21: NONE if he can't TRY it free,"})
    private static void easierThanWhatHeCantTry() {
        TubBites t = of("tub 6 by 1;" + GET + apple('a', 0, 0) + apple('b', 3, 0) + apple('c', 4, 0) + bobber('a', 0, 0, 3, 0));
        due("in reach", t.easier(0, 1), 0);
        due("out of reach", t.easier(0, 2), -1);
        t.go(0, 0, FREE);
        due("out", t.easier(0, 0), -1);
    }

    @Says({"21: or one can't be."})
    private static void easierOfNone() {
        TubBites t = of("tub 6 by 1;" + apple('a', 0, 0) + bobber('a', 0, 0, 3, 0));
        for (int no : beyond(0, 0)) {
            due("easier(" + no + ", 0)", t.easier(no, 0), -1);
            due("easier(0, " + no + ")", t.easier(0, no), -1);
        }
        due("of a new object", new TubBites().easier(0, 0), -1);
    }
}
