/** The boundary cases of promises 26 to 31: THE IMAGE, undo, ACTS, THE TRACE, LOAVES taken for a KIND, counts. */
final class EdgesOfActs extends Bench {
    // ---- image, undo

    @Says("THE IMAGE is taken: how many LOAVES there are")
    static void p26_image_ofNoneAndOfSix() {
        due("of none", new BakedBefore().image(), 0);
        due("of six", loaves(6).image(), 6);
    }

    @Says("THE IMAGE is taken: how many LOAVES there are")
    static void p26_image_theNewerOneStands() {
        BakedBefore x = loaves(1);
        x.oven(0, 5);
        due("the first", x.image(), 1);
        x.loaf(LOAF, 0);
        x.oven(0, 6);
        due("the second", x.image(), 2);
        x.oven(0, 7);
        due("undo()", x.undo(), 2);
        due("told(0)", x.told(0), 6);
        x.undo();
        x.oven(0, 8);
        due("an image behind undo", x.image(), 2);
        x.oven(0, 9);
        x.undo();
        due("told(0)", x.told(0), 8);
    }

    @Says("THE IMAGE: THE OVEN, LOAVES with all that is theirs, HOUR, the BOOK, which KILN holds")
    static void p26_image_whatComesLaterDoesNotTouchIt() {
        BakedBefore x = with(2, SHY);
        x.set(0, 3, 0, 7);
        x.set(0, 3, 1, 8);
        x.book(0, true);
        x.image();
        x.set(0, 3, 0, 70);
        x.set(0, 3, 1, 80);
        x.book(-2, true);
        x.undo();
        due("GIVES", x.of(0, 13), 7);
        due("BEARS", x.of(0, 23), 8);
        due("rows", x.count(2), 1);
        x.set(0, 3, 0, 71);
        x.set(0, 3, 1, 81);
        x.book(-1, true);
        x.undo();
        due("GIVES, again", x.of(0, 13), 7);
        due("BEARS, again", x.of(0, 23), 8);
        due("rows, again", x.count(2), 1);
    }

    @Says("STATE: there is none.")
    static void p27_undo_withoutAnImageIsState() {
        due("of a new object", new BakedBefore().undo(), STATE);
        BakedBefore x = loaves(2);
        due("of one with LOAVES", x.undo(), STATE);
        x.image();
        due("behind an image", x.undo(), 2);
        due("the image stays", x.undo(), 2);
    }

    @Says("All is as THE IMAGE: how many LOAVES")
    static void p27_undo_toNone() {
        BakedBefore x = new BakedBefore();
        x.image();
        for (int i = 0; i < 6; i++) {
            x.loaf(SHY, 9);
        }
        hold(x, 9999);
        x.book(5, true);
        x.cold();
        due("undo()", x.undo(), 0);
        due("count(0)", x.count(0), 0);
        due("of(0, 0)", x.of(0, 0), NONE);
        due("count(2)", x.count(2), 0);
        due("told(0)", x.told(0), 0);
        due("told(4)", x.told(4), 0);
        due("the next LOAF is number 0", x.loaf(LOAF, 0), 0);
    }

    @Says("All is as THE IMAGE: how many LOAVES")
    static void p27_undo_aLoafThatWentIsNoMore() {
        BakedBefore x = loaves(5);
        x.image();
        x.loaf(SHY, 9);
        x.set(5, 2, 0, 50);
        x.set(5, 2, 1, 60);
        due("undo()", x.undo(), 5);
        due("set(5, ..)", x.set(5, 0, 0, 0), NONE);
        due("bake(5)", x.bake(5), NONE);
        due("order of it", x.order(32, -1), BAD);
        due("a new number 5", x.loaf(LOAF, 3), 5);
        due("its KIND", x.of(5, 0), LOAF);
        due("its v", x.of(5, 1), 3);
        due("it GIVES nothing", x.of(5, 12), 0);
        due("it BEARS 9", x.of(5, 22), 9);
    }

    @Says("All is as THE IMAGE: how many LOAVES")
    static void p27_undo_theFullBookOfTwelve() {
        BakedBefore x = loaves(1);
        for (int row = 0; row < 12; row++) {
            x.book(-2, row == 11);
        }
        x.image();
        x.book(-1, true);
        x.book(0, true);
        x.undo();
        due("count(2)", x.count(2), 12);
        due("the twelfth", x.looked(), 11);
        due("a 13th", x.book(0, true), FULL);
    }

    @Says("LOAVES with all that is theirs")
    static void p27_undo_ofEveryTaste() {
        BakedBefore x = loaves(6);
        for (int t = 0; t < 4; t++) {
            x.oven(t, 10 + t);
            x.set(5, t, 0, 20 + t);
            x.set(5, t, 1, 30 + t);
        }
        x.image();
        for (int t = 0; t < 4; t++) {
            x.oven(t, 1);
            x.set(5, t, 0, 1);
            x.set(5, t, 1, 1);
        }
        x.undo();
        for (int t = 0; t < 4; t++) {
            due("THE OVEN", x.told(t), 10 + t);
            due("GIVES", x.of(5, 10 + t), 20 + t);
            due("BEARS", x.of(5, 20 + t), 30 + t);
        }
    }

    @Says("THE IMAGE: THE OVEN, LOAVES with all that is theirs, HOUR, the BOOK")
    static void p27_undo_ofEveryRowWhichLoafAndWhetherSpoiled() {
        BakedBefore x = with(0, HOLY, LOAF);
        x.oven(0, 9999);
        x.book(1, true);
        x.book(0, false);
        x.book(-2, false);
        due("as told", x.looked(), ABSENT);
        x.image();
        x.book(-1, true);
        x.book(0, false);
        x.book(1, true);
        x.book(1, true);
        x.undo();
        due("count(2)", x.count(2), 3);
        due("as told again", x.looked(), ABSENT);
        x.image();
        x.book(-1, true);
        x.book(1, false);
        x.undo();
        due("as told once more", x.looked(), ABSENT);
    }

    @Says("which KILN holds")
    static void p27_undo_theKilnThatHeldHoldsAndNoneIfNone() {
        BakedBefore x = loaves(1);
        x.image();
        kiln(x, "cold 7");
        x.undo();
        due("none held: cold", x.told(5), 50);
        due("none held: count(1)", x.count(1), 1);
        kiln(x, "cold 8");
        x.image();
        kiln(x, "cold 9");
        x.undo();
        due("the second: cold", x.told(5), 8);
        due("the next is number 3", kiln(x, "cold 10"), 3);
    }

    @Says("FULL: there are 6 (THE TEXT stays)")
    static void p27_undo_sixKilnsAreSixAllTheSame() {
        BakedBefore x = new BakedBefore();
        x.image();
        for (int i = 0; i < 6; i++) {
            kiln(x, "cold 1" + i);
        }
        x.undo();
        due("cold without a KILN", x.told(5), 50);
        due("a seventh", kiln(x, "cold 9"), FULL);
        due("cold without a KILN", x.told(5), 50);
    }

    @Says("THE IMAGE: THE OVEN, LOAVES with all that is theirs, HOUR, the BOOK, which KILN holds")
    static void p27_undo_whatTheImageDoesNotHoldStays() {
        BakedBefore x = loaves(1);
        x.tape(0, BYTES, 2);
        x.image();
        x.item(0, 1, 5);
        x.tape(1, INTS, 1);
        feed(x, "ab");
        x.act(0, 2, 1);
        x.undo();
        due("an item", x.read(0, 1), 5);
        due("a TAPE", x.read(1, 0), 0);
        due("bytes of THE TEXT", x.count(3), 2);
        due("bodies that ran", x.count(4), 3);
        due("trace(0)", x.trace(0), 12);
    }

    // ---- act

    @Says("0, and no TRACE then: no such LOAF, act")
    static void p28_act_noSuchLoafIsZeroWithoutTrace() {
        int[] such = {1, -1, 6, MAX, MIN};
        for (int loaf : such) {
            BakedBefore x = with(3, SHY);
            x.act(0, 2, 5);
            due("act(" + loaf + ", 0, 5)", x.act(loaf, 0, 5), 0);
            due("trace(0)", x.trace(0), NONE);
            due("count(4)", x.count(4), 0);
        }
        due("none at all", new BakedBefore().act(0, 0, 5), 0);
    }

    @Says("0, and no TRACE then: no such LOAF, act")
    static void p28_act_noSuchActIsZeroWithoutTrace() {
        int[] such = {3, -1, MAX, MIN};
        for (int act : such) {
            BakedBefore x = with(3, SHY);
            x.act(0, 2, 5);
            due("act(0, " + act + ", 5)", x.act(0, act, 5), 0);
            due("trace(0)", x.trace(0), NONE);
            due("count(4)", x.count(4), 0);
        }
    }

    @Says("the body of its KIND, or, if that has none, of the next KIND above that has one")
    static void p28_act_theBodyOfTheNextKindAboveThatHasOne() {
        int[][] first = {{10, 11, 12}, {10, 20, 12}, {30, 11, 12}, {10, 11, 40},
            {50, 51, 12}, {30, 11, 60}, {71, 70, 40}};
        for (int kind = 0; kind <= 6; kind++) {
            for (int act = 0; act < 3; act++) {
                BakedBefore x = with(0, kind);
                x.act(0, act, 1);
                due("KIND " + kind + ", act " + act, x.trace(0), first[kind][act]);
            }
        }
    }

    @Says("super.rises(..): so from the KIND above the body's on")
    static void p28_act_fromTheKindAboveTheBodysNotTheLoafs() {
        BakedBefore x = with(2, POISONED, SHY);
        due("60, 12, 11, 30, 10: ((4 - 0) * 3 + 0 - 2) * 2", x.act(0, 2, 4), 20);
        // 70 asks 11 of LOAF, that 71 of its own KIND, and then 10 itself, without 71
        due("70, 11, 71, 10, 10: (((4 + 1) ^ 2) - 2) + (2 + 1)", x.act(1, 1, 4), 8);
        int[] want = {70, 11, 71, 10, 10};
        for (int i = 0; i < want.length; i++) {
            due("trace(" + i + ")", x.trace(i), want[i]);
        }
    }

    @Says("ACTS of a LOAF with x (wrapping)")
    static void p28_act_sumsWrap() {
        BakedBefore x = loaves(6);
        due("MAX and 5", x.act(5, 0, MAX), MIN + 4);
        due("MAX and 0", x.act(0, 0, MAX), MAX);
        x = with(9, LOAF);
        due("MIN less 9", x.act(0, 1, MIN), MAX - 8);
        x = with(0, LOAF, POISONED);
        due("60: MIN less 1, and 1, by 2", x.act(1, 2, MIN), 3 * (MIN - 1) * 2 + 2);
        x = with(0, RYE);
        due("51: MAX and 1", x.act(0, 1, MAX), (-MIN) ^ 6);
    }

    @Says("ACTS of a LOAF with x (wrapping)")
    static void p28_act_productsWrap() {
        due("30: 3 times MAX", with(0, GREEDY).act(0, 0, MAX), MAX - 2);
        due("30: 3 times MIN", with(0, GREEDY).act(0, 0, MIN), MIN);
        due("12: 2 times MIN", with(0, LOAF).act(0, 2, MIN), 0);
        due("12: 2 times MAX", with(0, LOAF).act(0, 2, MAX), -2);
    }

    @Says("RYE: 50 rises: -super.rises(x)")
    static void p28_act_lessMinWraps() {
        due("50: less MIN", with(0, RYE).act(0, 0, MIN), MIN);
        due("50: less MAX", with(0, RYE).act(0, 0, MAX), -MAX);
    }

    @Says("CLEAN: 20 bakes: super.bakes(x) ^ 6")
    static void p28_act_bitsOfWhatIsBelowZero() {
        due("20: -1 ^ 6", with(0, CLEAN).act(0, 1, -1), -7);
        due("71: MIN ^ 9", with(9, SHY).act(0, 0, MIN), MIN + 9);
    }

    // ---- trace

    @Says("THE TRACE's i-th body. NONE.")
    static void p29_trace_belowZeroAndBehindTheLastIsNone() {
        BakedBefore x = with(0, SHY);
        x.act(0, 2, 5);
        due("the first", x.trace(0), 40);
        due("the last", x.trace(11), 10);
        due("behind the last", x.trace(12), NONE);
        due("-1", x.trace(-1), NONE);
        due("MAX", x.trace(MAX), NONE);
        due("MIN", x.trace(MIN), NONE);
        due("20", x.trace(20), NONE);
    }

    @Says("the bodies that ran in the latest act(), as they began")
    static void p29_trace_ofTheLatestActAlone() {
        BakedBefore x = loaves(1);
        due("ahead of any", x.trace(0), NONE);
        x.act(0, 2, 5);
        x.act(0, 0, 5);
        due("the first of a shorter one", x.trace(0), 10);
        due("nothing of the longer one ahead", x.trace(1), NONE);
    }

    @Says("THE TRACE: the numbers of the bodies that ran in the latest act(), as they began")
    static void p29_trace_everyBodyOfTheLongestAct() {
        BakedBefore x = with(0, SHY);
        x.act(0, 2, 5);
        int[] want = {40, 12, 70, 11, 71, 10, 10, 70, 11, 71, 10, 10};
        for (int i = 0; i < want.length; i++) {
            due("trace(" + i + ")", x.trace(i), want[i]);
        }
    }

    // ---- taken

    @Says("BAD: k; NOTHING: no such LOAF; CAST.")
    static void p30_taken_kBelowZeroAndSevenIsBad() {
        due("k -1", loaves(1).taken(0, -1), BAD);
        due("k 7", loaves(1).taken(0, 7), BAD);
        due("k MAX", loaves(1).taken(0, MAX), BAD);
        due("k MIN", loaves(1).taken(0, MIN), BAD);
    }

    @Says("BAD: k; NOTHING: no such LOAF; CAST.")
    static void p30_taken_noSuchLoafIsNothing() {
        due("none at all", new BakedBefore().taken(0, 0), NOTHING);
        due("the next", loaves(2).taken(2, 0), NOTHING);
        due("one below 0", loaves(2).taken(-1, 6), NOTHING);
        due("MAX", loaves(6).taken(MAX, 0), NOTHING);
    }

    @Says("the first that a call's words name")
    static void p30_taken_badAheadOfNothing() {
        due("of none", new BakedBefore().taken(0, 7), BAD);
        due("of the next", loaves(1).taken(1, -1), BAD);
    }

    @Says("A LOAF taken for one of KIND k (0 .. 6), or one under that: its KIND")
    static void p30_taken_forItsOwnKindAndForLoaf() {
        for (int kind = 0; kind <= 6; kind++) {
            due("KIND " + kind + " for itself", with(0, kind).taken(0, kind), kind);
            due("KIND " + kind + " for LOAF", with(0, kind).taken(0, LOAF), kind);
        }
    }

    @Says("or one under that: its KIND")
    static void p30_taken_forTheOneBetween() {
        due("RYE for CLEAN", with(0, RYE).taken(0, CLEAN), RYE);
        due("POISONED for GREEDY", with(0, POISONED).taken(0, GREEDY), POISONED);
        due("SHY for HOLY", with(0, SHY).taken(0, HOLY), SHY);
    }

    @Says("CAST (-12): another sort or KIND")
    static void p30_taken_forOneUnderItOrBesideItIsCast() {
        due("LOAF for CLEAN", with(0, LOAF).taken(0, CLEAN), CAST);
        due("CLEAN for RYE", with(0, CLEAN).taken(0, RYE), CAST);
        due("CLEAN for GREEDY", with(0, CLEAN).taken(0, GREEDY), CAST);
        due("RYE for GREEDY", with(0, RYE).taken(0, GREEDY), CAST);
        due("POISONED for HOLY", with(0, POISONED).taken(0, HOLY), CAST);
        due("SHY for CLEAN", with(0, SHY).taken(0, CLEAN), CAST);
        due("SHY for POISONED", with(0, SHY).taken(0, POISONED), CAST);
    }

    // ---- count

    @Says("4 bodies that ran in the latest act() (all, kept or not). BAD.")
    static void p31_count_noSuchWhatIsBad() {
        due("count(-1)", new BakedBefore().count(-1), BAD);
        due("count(5)", new BakedBefore().count(5), BAD);
        due("count(MAX)", new BakedBefore().count(MAX), BAD);
        due("count(MIN)", new BakedBefore().count(MIN), BAD);
    }

    @Says("How many: 0 LOAVES, 1 KILNS, 2 rows of the BOOK, 3 bytes of THE TEXT")
    static void p31_count_noneAtFirstAndAsManyAsCanBe() {
        BakedBefore x = new BakedBefore();
        for (int what = 0; what < 5; what++) {
            due("none of " + what, x.count(what), 0);
        }
        for (int i = 0; i < 7; i++) {
            x.loaf(LOAF, 0);
            kiln(x, "cold 1");
        }
        for (int i = 0; i < 13; i++) {
            x.book(-2, true);
        }
        feed(x, "x".repeat(101));
        due("LOAVES", x.count(0), 6);
        due("KILNS", x.count(1), 6);
        due("rows", x.count(2), 12);
        due("bytes", x.count(3), 100);
    }

    @Says("4 bodies that ran in the latest act() (all, kept or not)")
    static void p31_count_bodiesOfTheLatestAct() {
        BakedBefore x = with(0, SHY, LOAF);
        x.act(0, 2, 5);
        due("twelve", x.count(4), 12);
        x.act(1, 0, 5);
        due("one", x.count(4), 1);
    }
}
