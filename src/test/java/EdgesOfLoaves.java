/** The boundary cases of promises 1 to 5 and 8: a new object, LOAVES, THE OVEN. */
final class EdgesOfLoaves extends Bench {
    // ---- a new object

    @Says("`BakedBefore()`: No LOAVES, no KILN.")
    static void p01_new_hasNoLoaves() {
        BakedBefore x = new BakedBefore();
        due("count(0)", x.count(0), 0);
        due("of(0, 0)", x.of(0, 0), NONE);
        due("bake(0)", x.bake(0), NONE);
        due("its first LOAF", x.loaf(LOAF, 0), 0);
    }

    @Says({"`BakedBefore()`: No LOAVES, no KILN.", "without one there are no CLAUSES"})
    static void p01_new_hasNoKilnAndNoClauses() {
        BakedBefore x = loaves(1);
        due("count(1)", x.count(1), 0);
        x.oven(0, 100);
        due("PART without CLAUSES", x.of(0, 30), 50);
        due("MORE without CLAUSES", x.of(0, 40), 0);
        due("FEE without CLAUSES", x.of(0, 2), 1);
        due("cold without CLAUSES", x.told(5), 50);
        due("its first KILN", kiln(x, "cold 1"), 0);
    }

    @Says("THE OVEN holds 0 .. 9999 of each (0 at first)")
    static void p01_new_theOvenHoldsNothing() {
        for (int t = 0; t < 4; t++) {
            due("told(" + t + ")", new BakedBefore().told(t), 0);
        }
    }

    @Says("HOUR: 0 at first")
    static void p01_new_hourIsZero() {
        due("told(4)", new BakedBefore().told(4), 0);
    }

    @Says("TAPES 0 .. 5 hold nothing (at first)")
    static void p01_new_tapesHoldNothing() {
        BakedBefore x = new BakedBefore();
        for (int tape = 0; tape < 6; tape++) {
            due("read(" + tape + ", 0)", x.read(tape, 0), NO);
            due("item(" + tape + ", 0, 1)", x.item(tape, 0, 1), NOTHING);
        }
    }

    @Says("THE TEXT (bytes, 100 at most)")
    static void p01_new_textBookAndTraceAreEmpty() {
        BakedBefore x = new BakedBefore();
        due("bytes of THE TEXT", x.count(3), 0);
        due("rows of the BOOK", x.count(2), 0);
        due("bodies that ran", x.count(4), 0);
        due("trace(0)", x.trace(0), NONE);
    }

    @Says("STATE: there is none.")
    static void p01_new_hasNoImage() {
        due("undo()", new BakedBefore().undo(), STATE);
    }

    @Says({"NONE = -1, BAD = -2, STATE = -3, FULL = -4", "NO = Long.MIN_VALUE"})
    static void p01_new_constants() {
        due("NONE", BakedBefore.NONE, -1);
        due("BAD", BakedBefore.BAD, -2);
        due("STATE", BakedBefore.STATE, -3);
        due("FULL", BakedBefore.FULL, -4);
        due("NO", BakedBefore.NO, Long.MIN_VALUE);
    }

    // ---- loaf

    @Says("0 LOAF; 1 CLEAN, 2 GREEDY, 3 HOLY under LOAF; 4 RYE under CLEAN; 5 POISONED under GREEDY; 6 SHY under HOLY")
    static void p02_loaf_everyKindFromZeroToSix() {
        for (int kind = 0; kind <= 6; kind++) {
            BakedBefore x = new BakedBefore();
            due("loaf(" + kind + ", 0)", x.loaf(kind, 0), 0);
            due("its KIND", x.of(0, 0), kind);
        }
    }

    @Says("A LOAF: its number. NONE: kind")
    static void p02_loaf_kindBelowZeroIsNone() {
        due("loaf(-1, 0)", new BakedBefore().loaf(-1, 0), NONE);
        due("loaf(MIN, 0)", new BakedBefore().loaf(MIN, 0), NONE);
    }

    @Says("A LOAF: its number. NONE: kind")
    static void p02_loaf_kindSevenIsNone() {
        due("loaf(7, 0)", new BakedBefore().loaf(7, 0), NONE);
        due("loaf(MAX, 0)", new BakedBefore().loaf(MAX, 0), NONE);
    }

    @Says("with a number v (0 .. 9)")
    static void p02_loaf_vZeroAndVNine() {
        BakedBefore x = new BakedBefore();
        due("loaf(0, 0)", x.loaf(0, 0), 0);
        due("loaf(0, 9)", x.loaf(0, 9), 1);
        due("v 0", x.of(0, 1), 0);
        due("v 9", x.of(1, 1), 9);
    }

    @Says("BAD: v")
    static void p02_loaf_vBelowZeroIsBad() {
        due("loaf(0, -1)", new BakedBefore().loaf(0, -1), BAD);
        due("loaf(0, MIN)", new BakedBefore().loaf(0, MIN), BAD);
    }

    @Says("BAD: v")
    static void p02_loaf_vTenIsBad() {
        due("loaf(0, 10)", new BakedBefore().loaf(0, 10), BAD);
        due("loaf(0, MAX)", new BakedBefore().loaf(0, MAX), BAD);
    }

    @Says("LOAVES 0 .. 5, as they come")
    static void p02_loaf_theSixthIsNumberFive() {
        due("the sixth", loaves(5).loaf(LOAF, 0), 5);
    }

    @Says("FULL: 6.")
    static void p02_loaf_theSeventhIsFull() {
        BakedBefore x = loaves(6);
        due("the seventh", x.loaf(LOAF, 0), FULL);
        due("the seventh again", x.loaf(SHY, 9), FULL);
        due("count(0)", x.count(0), 6);
    }

    @Says("the first that a call's words name")
    static void p02_loaf_noneAheadOfBadAheadOfFull() {
        due("loaf(7, 10)", new BakedBefore().loaf(7, 10), NONE);
        due("loaf(7, 10) of six", loaves(6).loaf(7, 10), NONE);
        due("loaf(7, 0) of six", loaves(6).loaf(7, 0), NONE);
        due("loaf(0, 10) of six", loaves(6).loaf(0, 10), BAD);
    }

    @Says("each GIVES 0 .. 99 and BEARS 0 .. 99 of each TASTE (0 and 9 at first)")
    static void p02_loaf_givesNothingAndBearsNineAtFirst() {
        for (int kind = 0; kind <= 6; kind++) {
            BakedBefore x = with(5, kind);
            for (int t = 0; t < 4; t++) {
                due("GIVES", x.of(0, 10 + t), 0);
                due("BEARS", x.of(0, 20 + t), 9);
            }
        }
    }

    // ---- set

    @Says("becomes n (0 .. 99): what it was")
    static void p03_set_zeroAndNinetyNine() {
        for (int what = 0; what < 2; what++) {
            for (int t = 0; t < 4; t++) {
                BakedBefore x = loaves(1);
                due("set(0, t, what, 99)", x.set(0, t, what, 99), what == 0 ? 0 : 9);
                due("is 99", x.of(0, 10 + 10 * what + t), 99);
                due("set(0, t, what, 0)", x.set(0, t, what, 0), 99);
                due("is 0", x.of(0, 10 + 10 * what + t), 0);
            }
        }
    }

    @Says("becomes n (0 .. 99): what it was. NONE; BAD.")
    static void p03_set_nBelowZeroIsBad() {
        due("GIVES -1", loaves(1).set(0, 0, 0, -1), BAD);
        due("BEARS -1", loaves(1).set(0, 3, 1, -1), BAD);
        due("GIVES MIN", loaves(1).set(0, 0, 0, MIN), BAD);
    }

    @Says("becomes n (0 .. 99): what it was. NONE; BAD.")
    static void p03_set_nOneHundredIsBad() {
        due("GIVES 100", loaves(1).set(0, 0, 0, 100), BAD);
        due("BEARS 100", loaves(1).set(0, 3, 1, 100), BAD);
        due("BEARS MAX", loaves(1).set(0, 3, 1, MAX), BAD);
    }

    @Says("becomes n (0 .. 99): what it was. NONE; BAD.")
    static void p03_set_noSuchLoafIsNone() {
        due("none at all", new BakedBefore().set(0, 0, 0, 0), NONE);
        due("the next", loaves(2).set(2, 0, 0, 0), NONE);
        due("one below 0", loaves(2).set(-1, 0, 0, 0), NONE);
        due("behind six", loaves(6).set(6, 0, 0, 0), NONE);
        due("the last of six", loaves(6).set(5, 0, 0, 0), 0);
    }

    @Says("TASTES 0 .. 3")
    static void p03_set_noSuchTasteIsNone() {
        due("taste 3", loaves(1).set(0, 3, 0, 1), 0);
        due("taste 4", loaves(1).set(0, 4, 0, 0), NONE);
        due("taste -1", loaves(1).set(0, -1, 0, 0), NONE);
    }

    @Says("Of a LOAF and a TASTE what 0 GIVES, 1 BEARS")
    static void p03_set_noSuchWhatIsNone() {
        due("what 2", loaves(1).set(0, 0, 2, 0), NONE);
        due("what -1", loaves(1).set(0, 0, -1, 0), NONE);
    }

    @Says("the first that a call's words name")
    static void p03_set_noneAheadOfBad() {
        due("loaf and n", loaves(1).set(1, 0, 0, 100), NONE);
        due("taste and n", loaves(1).set(0, 4, 0, -1), NONE);
        due("what and n", loaves(1).set(0, 0, 2, 100), NONE);
    }

    @Says("Of a LOAF and a TASTE what 0 GIVES, 1 BEARS becomes n")
    static void p03_set_touchesThatOneAlone() {
        BakedBefore x = loaves(2);
        x.set(1, 2, 0, 50);
        for (int l = 0; l < 2; l++) {
            for (int t = 0; t < 4; t++) {
                due("GIVES", x.of(l, 10 + t), l == 1 && t == 2 ? 50 : 0);
                due("BEARS", x.of(l, 20 + t), 9);
            }
        }
    }

    // ---- of

    @Says("40 and t LEAVES of TASTE t. NONE.")
    static void p04_of_noSuchLoafIsNone() {
        int[] whats = {0, 1, 2, 3, 10, 23, 30, 43};
        for (int what : whats) {
            due("none at all, what " + what, new BakedBefore().of(0, what), NONE);
            due("the next, what " + what, loaves(2).of(2, what), NONE);
            due("one below 0, what " + what, loaves(2).of(-1, what), NONE);
            due("MAX, what " + what, loaves(2).of(MAX, what), NONE);
        }
    }

    @Says({"10 and t GIVES (as set), 20 and t BEARS, 30 and t TAKES, 40 and t LEAVES of TASTE t. NONE.",
        "TASTES 0 .. 3"})
    static void p04_of_noSuchWhatIsNone() {
        BakedBefore x = loaves(1);
        for (int what = -12; what < 60; what++) {
            boolean such = what >= 0 && what < 4 || what >= 10 && what < 44 && what % 10 < 4;
            if (!such) {
                due("of(0, " + what + ")", x.of(0, what), NONE);
            }
        }
        due("of(0, MAX)", x.of(0, MAX), NONE);
        due("of(0, MIN)", x.of(0, MIN), NONE);
        due("of(0, MIN + 10)", x.of(0, MIN + 10), NONE);
    }

    @Says("LOAF: PART of a hundred (cut) of what THE OVEN holds")
    static void p04_takes_loafIsCut() {
        takes(LOAF, 0, 9, 0, 0);
        takes(LOAF, 0, 9, 1, 0);
        takes(LOAF, 0, 9, 2, 1);
        takes(LOAF, 0, 9, 9999, 4999);
    }

    @Says("CLEAN: all of that")
    static void p04_takes_cleanIsAll() {
        takes(CLEAN, 0, 9, 0, 0);
        takes(CLEAN, 9, 9, 1, 1);
        takes(CLEAN, 9, 0, 9999, 9999);
    }

    @Says("GREEDY, POISONED: twice what a LOAF would")
    static void p04_takes_greedyAndPoisonedAreTwiceWhatIsCut() {
        int[] kinds = {GREEDY, POISONED};
        for (int kind : kinds) {
            takes(kind, 5, 9, 0, 0);
            takes(kind, 5, 9, 1, 0);
            takes(kind, 5, 9, 3, 2);
            takes(kind, 5, 9, 9999, 9998);
        }
    }

    @Says("HOLY: what a LOAF would, BEARS at most")
    static void p04_takes_holyIsBearsAtMost() {
        takes(HOLY, 0, 9, 17, 8);
        takes(HOLY, 0, 9, 18, 9);
        takes(HOLY, 0, 9, 20, 9);
        takes(HOLY, 0, 9, 9999, 9);
        takes(HOLY, 0, 0, 9999, 0);
        takes(HOLY, 0, 99, 198, 99);
        takes(HOLY, 0, 99, 200, 99);
    }

    @Says("RYE: all but v")
    static void p04_takes_ryeIsAllButV() {
        takes(RYE, 0, 9, 7, 7);
        takes(RYE, 9, 9, 10, 1);
        takes(RYE, 9, 9, 9999, 9990);
    }

    @Says({"RYE: all but v", "and 0 at least"})
    static void p04_takes_ryeIsZeroAtLeast() {
        takes(RYE, 9, 9, 9, 0);
        takes(RYE, 9, 9, 8, 0);
        takes(RYE, 9, 9, 0, 0);
    }

    @Says("SHY: the half (cut) of what a HOLY one would")
    static void p04_takes_shyIsHalfOfHolyCut() {
        takes(SHY, 0, 9, 3, 0);
        takes(SHY, 0, 9, 4, 1);
        takes(SHY, 0, 9, 6, 1);
        takes(SHY, 0, 9, 9999, 4);
        takes(SHY, 0, 1, 9999, 0);
    }

    @Says("Then it is no more than THE OVEN holds")
    static void p04_takes_noMoreThanTheOvenHolds() {
        int[] kinds = {LOAF, GREEDY, HOLY, POISONED};
        for (int kind : kinds) {
            BakedBefore x = with(3, kind);
            for (int t = 0; t < 4; t++) {
                x.set(0, t, 1, 99);
            }
            kiln(x, "take 99 t<4;take 99 t<4");
            x.oven(0, 10);
            due("KIND " + kind + " of 10 by 198 of a hundred", x.of(0, 30), 10);
            x.oven(0, 1);
            due("KIND " + kind + " of 1 by 198 of a hundred", x.of(0, 30), 1);
            due("KIND " + kind + " of none", x.of(0, 31), 0);
        }
    }

    /** What a LOAF of the KIND with v, that BEARS so much, TAKES of so much, by a PART of 50. */
    private static void takes(int kind, int v, int bears, int held, int want) {
        BakedBefore x = with(v, kind);
        for (int t = 0; t < 4; t++) {
            x.set(0, t, 1, bears);
            x.oven(t, held);
            due("KIND " + kind + " TAKES of " + held, x.of(0, 30 + t), want);
        }
    }

    @Says("LEAVES of a LOAF: GIVES and MORE, together")
    static void p04_leaves_nothingAtFirstAndNinetyNineAndMore() {
        BakedBefore x = loaves(1);
        due("nothing", x.of(0, 40), 0);
        x.set(0, 3, 0, 99);
        kiln(x, "more 99 t=3;more 99 t>2;more 99 t=0");
        due("99 and 198", x.of(0, 43), 297);
        due("99 of another", x.of(0, 40), 99);
        due("none of a third", x.of(0, 41), 0);
    }

    @Says("POISONED: v more of TASTE 0")
    static void p04_leaves_poisonedOfTasteZeroAlone() {
        BakedBefore x = with(9, POISONED);
        due("of 0", x.of(0, 40), 9);
        for (int t = 1; t < 4; t++) {
            due("of " + t, x.of(0, 40 + t), 0);
        }
        due("with v 0", with(0, POISONED).of(0, 40), 0);
        due("one of another KIND", with(9, GREEDY).of(0, 40), 0);
    }

    @Says("SHY: the half of that (cut)")
    static void p04_leaves_shyIsHalfCut() {
        int[] gives = {0, 1, 2, 3, 99};
        int[] want = {0, 0, 1, 1, 49};
        BakedBefore x = with(9, SHY);
        for (int i = 0; i < gives.length; i++) {
            gives(x, 0, gives[i]);
            due("of " + gives[i], x.of(0, 40), want[i]);
        }
        kiln(x, "more 2 t=0");
        due("of 99 and 2", x.of(0, 40), 50);
    }

    @Says("CLEAN, RYE: nothing")
    static void p04_leaves_cleanAndRyeLeaveNothing() {
        int[] kinds = {CLEAN, RYE};
        for (int kind : kinds) {
            BakedBefore x = with(9, kind);
            kiln(x, "more 99 t<4");
            for (int t = 0; t < 4; t++) {
                x.set(0, t, 0, 99);
                due("KIND " + kind + " of " + t, x.of(0, 40 + t), 0);
                due("KIND " + kind + " GIVES as set", x.of(0, 10 + t), 99);
            }
        }
    }

    @Says({"It is SPOILED, if it TAKES more of some TASTE than it BEARS", "3 whether it would be SPOILED now"})
    static void p04_spoiled_notByAsMuchAsItBears() {
        for (int t = 0; t < 4; t++) {
            BakedBefore x = with(0, CLEAN);
            x.oven(t, 9);
            due("9 of " + t, x.of(0, 3), 0);
            x.oven(t, 10);
            due("10 of " + t, x.of(0, 3), 1);
            x.set(0, t, 1, 10);
            due("10 of " + t + ", as much as it BEARS", x.of(0, 3), 0);
            x.set(0, t, 1, 0);
            x.oven(t, 0);
            due("none of " + t + ", as much as it BEARS", x.of(0, 3), 0);
            x.oven(t, 1);
            due("1 of " + t + ", and it BEARS none", x.of(0, 3), 1);
        }
    }

    // ---- oven

    @Says("What THE OVEN holds of a TASTE becomes n (0 .. 9999): what it was")
    static void p05_oven_zeroAnd9999() {
        for (int t = 0; t < 4; t++) {
            BakedBefore x = new BakedBefore();
            due("oven(" + t + ", 9999)", x.oven(t, 9999), 0);
            due("told(" + t + ")", x.told(t), 9999);
            due("oven(" + t + ", 0)", x.oven(t, 0), 9999);
            due("told(" + t + ")", x.told(t), 0);
        }
    }

    @Says("becomes n (0 .. 9999): what it was. NONE; BAD.")
    static void p05_oven_nBelowZeroIsBad() {
        due("oven(0, -1)", new BakedBefore().oven(0, -1), BAD);
        due("oven(3, MIN)", new BakedBefore().oven(3, MIN), BAD);
    }

    @Says("becomes n (0 .. 9999): what it was. NONE; BAD.")
    static void p05_oven_n10000IsBad() {
        due("oven(0, 10000)", new BakedBefore().oven(0, 10000), BAD);
        due("oven(3, MAX)", new BakedBefore().oven(3, MAX), BAD);
    }

    @Says("TASTES 0 .. 3")
    static void p05_oven_noSuchTasteIsNone() {
        due("oven(-1, 0)", new BakedBefore().oven(-1, 0), NONE);
        due("oven(4, 0)", new BakedBefore().oven(4, 0), NONE);
        due("oven(MAX, 0)", new BakedBefore().oven(MAX, 0), NONE);
        due("oven(MIN, 0)", new BakedBefore().oven(MIN, 0), NONE);
    }

    @Says("the first that a call's words name")
    static void p05_oven_noneAheadOfBad() {
        due("oven(4, 10000)", new BakedBefore().oven(4, 10000), NONE);
        due("oven(-1, -1)", new BakedBefore().oven(-1, -1), NONE);
    }

    // ---- told

    @Says("What 0 .. 3 THE OVEN holds of that TASTE, 4 HOUR, 5 cold. NONE.")
    static void p08_told_noSuchWhatIsNone() {
        BakedBefore x = new BakedBefore();
        due("told(-1)", x.told(-1), NONE);
        due("told(6)", x.told(6), NONE);
        due("told(MAX)", x.told(MAX), NONE);
        due("told(MIN)", x.told(MIN), NONE);
    }

    @Says("What 0 .. 3 THE OVEN holds of that TASTE, 4 HOUR, 5 cold. NONE.")
    static void p08_told_eachIsItsOwn() {
        BakedBefore x = new BakedBefore();
        kiln(x, "cold 99");
        x.cold();
        for (int t = 0; t < 4; t++) {
            x.oven(t, 10 + t);
        }
        int[] want = {10, 11, 12, 13, 1, 99};
        for (int what = 0; what < 6; what++) {
            due("told(" + what + ")", x.told(what), want[what]);
        }
    }
}
