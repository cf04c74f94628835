/** The boundary cases of promises 9 to 16: BAKES, COLD HOURS, WOULD, ORDER, COLDS, PLACE, GUILTY, TWO OVENS. */
final class EdgesOfBaking extends Bench {
    /** A first LOAF that GIVES 40 and a second that GIVES nothing, KIND 0: the second behind it is SPOILED. */
    private static BakedBefore strongAndMild() {
        BakedBefore x = loaves(2);
        gives(x, 0, 40);
        return x;
    }

    // ---- bake

    @Says("A BAKE: whether it is SPOILED (1, 0). NONE.")
    static void p09_bake_noSuchLoafIsNone() {
        due("none at all", new BakedBefore().bake(0), NONE);
        due("the next", loaves(2).bake(2), NONE);
        due("one below 0", loaves(2).bake(-1), NONE);
        due("behind six", loaves(6).bake(6), NONE);
        due("MAX", loaves(6).bake(MAX), NONE);
        due("MIN", loaves(6).bake(MIN), NONE);
        due("the last of six", loaves(6).bake(5), 0);
    }

    @Says("It is SPOILED, if it TAKES more of some TASTE than it BEARS")
    static void p09_bake_spoiledByOneMoreThanItBears() {
        for (int t = 0; t < 4; t++) {
            BakedBefore x = with(0, CLEAN);
            x.oven(t, 9);
            due("9 of " + t, x.bake(0), 0);
            x.oven(t, 10);
            due("10 of " + t, x.bake(0), 1);
        }
    }

    @Says("and what it LEAVES more (9999 at most)")
    static void p09_bake_theOvenHolds9999AtMost() {
        int[] held = {9899, 9900, 9901, 9999};
        int[] want = {9998, 9999, 9999, 9999};
        for (int i = 0; i < held.length; i++) {
            for (int t = 0; t < 4; t++) {
                BakedBefore x = loaves(1);
                kiln(x, "take 0 t=0");
                x.set(0, t, 0, 99);
                x.oven(t, held[i]);
                x.bake(0);
                due(held[i] + " and 99 of " + t, x.told(t), want[i]);
            }
        }
    }

    @Says("and what it LEAVES more (9999 at most)")
    static void p09_bake_whatItTakesIsLessAheadOfTheEndAt9999() {
        BakedBefore x = loaves(1);
        kiln(x, "take 1 t=0;more 99 t=0;more 2 t=0");
        x.oven(0, 9999);
        x.bake(0);
        due("9999 less 99 and 101", x.told(0), 9999);
        x.oven(0, 9998);
        x.set(0, 0, 0, 0);
        kiln(x, "take 1 t=0;more 99 t=0");
        x.bake(0);
        due("9998 less 99 and 99", x.told(0), 9998);
    }

    @Says("both by how all was ahead of the BAKE")
    static void p09_bake_bothByHowAllWasAhead() {
        BakedBefore x = loaves(1);
        kiln(x, "take 50 o=2&h=0;more 9 o=2&h=0;more 70 o=1;more 80 h=1");
        hold(x, 29);
        x.bake(0);
        for (int t = 0; t < 4; t++) {
            due("29 less 14 and 9 of " + t, x.told(t), 24);
        }
    }

    @Says({"of each TASTE THE OVEN holds what it TAKES less", "HOUR is 1 more"})
    static void p09_bake_ofNothingAnHourIsMoreAllTheSame() {
        BakedBefore x = loaves(1);
        due("bake(0)", x.bake(0), 0);
        due("HOUR", x.told(4), 1);
        for (int t = 0; t < 4; t++) {
            due("told(" + t + ")", x.told(t), 0);
        }
        due("bake(0) again", x.bake(0), 0);
        due("HOUR", x.told(4), 2);
    }

    @Says("HOUR is 1 more (9999 at most)")
    static void p09_bake_hourIsNotModuloSixty() {
        BakedBefore x = loaves(1);
        for (int i = 0; i < 61; i++) {
            x.bake(0);
        }
        due("HOUR behind 61", x.told(4), 61);
    }

    // ---- cold

    @Says("cold of a hundred (cut) of what it held")
    static void p10_cold_isCut() {
        int[] held = {0, 1, 2, 3, 9999};
        int[] want = {0, 0, 1, 1, 4999};
        BakedBefore x = new BakedBefore();
        for (int i = 0; i < held.length; i++) {
            hold(x, held[i]);
            x.cold();
            for (int t = 0; t < 4; t++) {
                due("half of " + held[i], x.told(t), want[i]);
            }
        }
    }

    @Says("cold of a hundred (cut) of what it held (9999 at most)")
    static void p10_cold_ofNoneAndOf99OfAHundred() {
        BakedBefore x = new BakedBefore();
        kiln(x, "cold 99");
        hold(x, 9999);
        x.cold();
        due("99 of a hundred of 9999", x.told(0), 9899);
        x.oven(1, 1);
        x.cold();
        due("99 of a hundred of 1", x.told(1), 0);
        kiln(x, "cold 0");
        x.oven(2, 9999);
        x.cold();
        due("0 of a hundred of 9999", x.told(2), 0);
    }

    @Says("A COLD HOUR: HOUR.")
    static void p10_cold_answersTheHourThen() {
        BakedBefore x = new BakedBefore();
        for (int i = 1; i <= 61; i++) {
            due("COLD HOUR " + i, x.cold(), i);
        }
        due("told(4)", x.told(4), 61);
    }

    // ---- would

    @Says("NONE: loaf, other (-1: none), what")
    static void p11_would_noSuchLoafIsNone() {
        due("none at all", new BakedBefore().would(0, -1, 0), NONE);
        due("the next", loaves(2).would(2, 0, 0), NONE);
        due("one below 0", loaves(2).would(-1, 0, 0), NONE);
        due("one below 0 behind none", loaves(2).would(-1, -1, 0), NONE);
    }

    @Says("NONE: loaf, other (-1: none), what")
    static void p11_would_noSuchOtherIsNone() {
        due("the next", loaves(2).would(0, 2, 0), NONE);
        due("one below -1", loaves(2).would(0, -2, 0), NONE);
        due("MAX", loaves(2).would(0, MAX, 0), NONE);
        due("MIN", loaves(2).would(0, MIN, 0), NONE);
    }

    @Says("NONE: loaf, other (-1: none), what")
    static void p11_would_noSuchWhatIsNone() {
        due("what -1", loaves(2).would(0, 1, -1), NONE);
        due("what 5", loaves(2).would(0, 1, 5), NONE);
        due("what 5 behind none", loaves(2).would(0, -1, 5), NONE);
        due("what 4", loaves(2).would(0, 1, 4), 0);
    }

    @Says("BAD: one LOAF.")
    static void p11_would_behindItselfIsBad() {
        due("the first", loaves(2).would(0, 0, 0), BAD);
        due("the last", loaves(2).would(1, 1, 4), BAD);
        due("an only one", loaves(1).would(0, 0, 0), BAD);
    }

    @Says("the first that a call's words name")
    static void p11_would_noneAheadOfBad() {
        due("what, of itself", loaves(2).would(0, 0, 5), NONE);
        due("no such LOAF, of itself", loaves(2).would(2, 2, 0), NONE);
    }

    @Says("if that one (or none) were BAKED just ahead of it")
    static void p11_would_behindNoneIsAsNow() {
        BakedBefore x = loaves(1);
        kiln(x, "take 50 h=0;take 10 h=1");
        for (int t = 0; t < 4; t++) {
            x.oven(t, 10 * t);
            due("TASTE " + t, x.would(0, -1, t), 5 * t);
        }
        due("SPOILED", x.would(0, -1, 4), 1);
        x.set(0, 3, 1, 15);
        due("SPOILED", x.would(0, -1, 4), 1);
        x.set(0, 2, 1, 10);
        due("not SPOILED", x.would(0, -1, 4), 0);
    }

    @Says("NONE: loaf, other (-1: none), what")
    static void p11_would_otherZeroIsALoafNotNone() {
        BakedBefore x = strongAndMild();
        due("behind 0", x.would(1, 0, 0), 20);
        due("behind 0, SPOILED", x.would(1, 0, 4), 1);
        due("behind none", x.would(1, -1, 0), 0);
    }

    // ---- order

    @Says("k -1 how many are SPOILED, else the k-th LOAF (-5: there are fewer). NONE: k (-1 .. 5)")
    static void p12_order_noSuchKIsNone() {
        due("k -2", loaves(2).order(3, -2), NONE);
        due("k 6", loaves(2).order(3, 6), NONE);
        due("k MIN", loaves(2).order(3, MIN), NONE);
        due("k MAX", loaves(2).order(3, MAX), NONE);
    }

    @Says("else the k-th LOAF (-5: there are fewer)")
    static void p12_order_kBehindTheSetIsMinusFive() {
        BakedBefore x = loaves(6);
        for (int many = 0; many <= 5; many++) {
            int set = (1 << many) - 1;
            for (int k = 0; k <= 5; k++) {
                due(many + " LOAVES, k " + k, x.order(set, k), k < many ? k : ABSENT);
            }
        }
    }

    @Says("ORDER of a set of LOAVES (5 at most; each BAKED once)")
    static void p12_order_ofTheEmptySet() {
        due("how many are SPOILED", loaves(2).order(0, -1), 0);
        due("the first", loaves(2).order(0, 0), ABSENT);
        due("without LOAVES", new BakedBefore().order(0, -1), 0);
        due("without LOAVES, the last k", new BakedBefore().order(0, 5), ABSENT);
    }

    @Says("BAD: set (5 at most)")
    static void p12_order_fiveAreASetAndSixAreBad() {
        for (int left = 0; left < 6; left++) {
            due("all but " + left, loaves(6).order(63 - (1 << left), -1), 0);
        }
        due("all six", loaves(6).order(63, -1), BAD);
        due("all six, k 5", loaves(6).order(63, 5), BAD);
    }

    @Says("BAD: set (5 at most)")
    static void p12_order_ofNoSuchLoafIsBad() {
        due("the next alone", loaves(2).order(4, -1), BAD);
        due("the next with others", loaves(2).order(7, 0), BAD);
        due("a seventh", loaves(6).order(64, -1), BAD);
        due("none at all", new BakedBefore().order(1, -1), BAD);
        due("the 31st bit", loaves(6).order(1 << 30, -1), BAD);
    }

    @Says("BAD: set (5 at most)")
    static void p12_order_belowZeroIsBad() {
        due("-1", loaves(6).order(-1, -1), BAD);
        due("MIN", loaves(6).order(MIN, -1), BAD);
        due("MIN and 1", loaves(6).order(MIN + 1, 0), BAD);
    }

    @Says("the first that a call's words name")
    static void p12_order_noneAheadOfBad() {
        due("order(64, 6)", loaves(6).order(64, 6), NONE);
        due("order(-1, -2)", loaves(6).order(-1, -2), NONE);
    }

    @Says("of all orders that with the fewest SPOILED")
    static void p12_order_theFewestSpoiledAheadOfTheFirst() {
        BakedBefore x = strongAndMild();
        due("how many", x.order(3, -1), 0);
        due("the first", x.order(3, 0), 1);
        due("the second", x.order(3, 1), 0);
    }

    @Says("of several the first as a row")
    static void p12_order_ofSeveralTheFirstAsARow() {
        BakedBefore x = loaves(6);
        gives(x, 1, 40);
        int[] row = {0, 2, 3, 4, 1};
        for (int k = 0; k < 5; k++) {
            due("the strong one last, k " + k, x.order(31, k), row[k]);
        }
        x = loaves(3);
        x.oven(0, 9999);
        due("all are SPOILED", x.order(7, -1), 3);
        for (int k = 0; k < 3; k++) {
            due("all are SPOILED, k " + k, x.order(7, k), k);
        }
        x.oven(0, 0);
        gives(x, 0, 40);
        due("0 behind both", x.order(7, 2), 0);
        due("of 1, 2 and 2, 1 the first", x.order(7, 0), 1);
    }

    @Says({"ORDER of a set of LOAVES (5 at most", "how many are"})
    static void p12_order_allFiveSpoiled() {
        for (int k = -1; k < 5; k++) {
            BakedBefore x = loaves(6);
            hold(x, 9999);
            due("k " + k, x.order(62, k), k < 0 ? 5 : k + 1);
        }
    }

    // ---- colds

    @Says("NONE: k (-1 .. 5); BAD: set (4 at most)")
    static void p13_colds_noSuchKIsNone() {
        due("k -2", loaves(2).colds(3, -2), NONE);
        due("k 6", loaves(2).colds(3, 6), NONE);
        due("k MIN", loaves(2).colds(3, MIN), NONE);
        due("k MAX", loaves(2).colds(3, MAX), NONE);
        due("k 5", loaves(2).colds(3, 5), ABSENT);
    }

    @Says("how many ahead of the k-th of the set (-5: there are fewer, or by none)")
    static void p13_colds_kBehindTheSetIsMinusFive() {
        BakedBefore x = loaves(6);
        for (int many = 0; many <= 4; many++) {
            int set = (1 << many) - 1;
            for (int k = 0; k <= 5; k++) {
                due(many + " LOAVES, k " + k, x.colds(set, k), k < many ? 0 : ABSENT);
            }
        }
    }

    @Says("COLDS of a set (4 at most), BAKED by numbers")
    static void p13_colds_ofTheEmptySet() {
        due("how many", loaves(2).colds(0, -1), 0);
        due("the first", loaves(2).colds(0, 0), ABSENT);
        due("without LOAVES", new BakedBefore().colds(0, -1), 0);
    }

    @Says("BAD: set (4 at most)")
    static void p13_colds_fourAreASetAndFiveAreBad() {
        due("the first four", loaves(6).colds(15, -1), 0);
        due("the last four", loaves(6).colds(60, -1), 0);
        for (int left = 0; left < 6; left++) {
            due("all but " + left, loaves(6).colds(63 - (1 << left), -1), BAD);
        }
        due("all six", loaves(6).colds(63, -1), BAD);
    }

    @Says("BAD: set (4 at most)")
    static void p13_colds_ofNoSuchLoafOrBelowZeroIsBad() {
        due("the next alone", loaves(2).colds(4, -1), BAD);
        due("a seventh", loaves(6).colds(64, -1), BAD);
        due("none at all", new BakedBefore().colds(1, -1), BAD);
        due("-1", loaves(6).colds(-1, -1), BAD);
        due("MIN", loaves(6).colds(MIN, -1), BAD);
    }

    @Says("the first that a call's words name")
    static void p13_colds_noneAheadOfBad() {
        due("colds(64, 6)", loaves(6).colds(64, 6), NONE);
        due("colds(-1, -2)", loaves(6).colds(-1, -2), NONE);
    }

    @Says("0 .. 4 COLD HOURS ahead of each")
    static void p13_colds_fourAheadOfOneAndNoMore() {
        // 319 by four halves is 19, of which 9 are taken; 320 is 20, of which 10 are
        BakedBefore x = loaves(1);
        x.oven(3, 319);
        due("four", x.colds(1, -1), 4);
        due("four ahead of it", x.colds(1, 0), 4);
        x.oven(3, 320);
        due("five would be due", x.colds(1, -1), ABSENT);
        x.oven(3, 19);
        due("none is due", x.colds(1, -1), 0);
        x.oven(3, 20);
        due("one is due", x.colds(1, -1), 1);
    }

    @Says("0 .. 4 COLD HOURS ahead of each")
    static void p13_colds_fourAheadOfEachOfFour() {
        // just at HOURS 4, 9, 14, 19 nothing is taken, at any other too much
        BakedBefore x = loaves(4);
        kiln(x, "take 50 !(h=4|h=9|h=14|h=19);cold 99");
        x.oven(1, 9999);
        due("sixteen", x.colds(15, -1), 16);
        for (int k = 0; k < 4; k++) {
            due("four ahead of " + k, x.colds(15, k), 4);
        }
        kiln(x, "take 50 !(h=4|h=9|h=14|h=20);cold 99");
        due("five would be due ahead of the last", x.colds(15, -1), ABSENT);
        due("four ahead of three", x.colds(7, -1), 12);
    }

    @Says("(-5: none)")
    static void p13_colds_minusFiveIfNoneMakesAllGood() {
        BakedBefore x = strongAndMild();
        x.oven(0, 9999);
        for (int k = -1; k <= 5; k++) {
            due("k " + k, x.colds(1, k), ABSENT);
        }
        x.oven(0, 0);
        x.set(1, 0, 1, 0);
        x.set(0, 0, 0, 99);
        due("the second can't be good", x.colds(3, -1), ABSENT);
        due("the first can", x.colds(1, -1), 0);
    }

    @Says("that of the fewest, together")
    static void p13_colds_theFewestAheadOfTheFirst() {
        BakedBefore x = strongAndMild();
        due("how many", x.colds(3, -1), 2);
        due("none ahead of the first", x.colds(3, 0), 0);
        due("two ahead of the second", x.colds(3, 1), 2);
    }

    @Says("that of the fewest, together")
    static void p13_colds_oneFewerByALaterRow() {
        // only at HOUR 0 the first LEAVES 40: without a COLD HOUR ahead of it two are due behind it
        BakedBefore x = loaves(2);
        kiln(x, "take 50 l=1;more 40 t=0&l=0&h=0;cold 30");
        x.oven(0, 30);
        due("how many", x.colds(3, -1), 1);
        due("one ahead of the first", x.colds(3, 0), 1);
        due("none ahead of the second", x.colds(3, 1), 0);
    }

    @Says("of several the first as a row")
    static void p13_colds_ofSeveralTheFirstAsARow() {
        // 40 is too much for either: one COLD HOUR ahead of the HOLY one or of the other
        BakedBefore x = with(0, HOLY, LOAF);
        x.oven(0, 40);
        due("how many", x.colds(3, -1), 1);
        due("none ahead of the first", x.colds(3, 0), 0);
        due("one ahead of the second", x.colds(3, 1), 1);
    }

    // ---- place

    @Says("PLACE: what 0 the place, 1 how much. NONE.")
    static void p14_place_noSuchLoafIsNone() {
        due("none at all", new BakedBefore().place(0, 0), NONE);
        due("the next", loaves(2).place(2, 0), NONE);
        due("one below 0", loaves(2).place(-1, 1), NONE);
    }

    @Says("PLACE: what 0 the place, 1 how much. NONE.")
    static void p14_place_noSuchWhatIsNone() {
        due("what -1", loaves(2).place(0, -1), NONE);
        due("what 2", loaves(2).place(0, 2), NONE);
    }

    @Says("it ahead of the k-th of these (from 0), or behind all")
    static void p14_place_ofAnOnlyLoafIsZero() {
        BakedBefore x = loaves(1);
        hold(x, 9);
        due("the place", x.place(0, 0), 0);
        due("how much of all TASTES", x.place(0, 1), 16);
    }

    @Says("it ahead of the k-th of these (from 0), or behind all")
    static void p14_place_aheadOfAllIsZero() {
        BakedBefore x = loaves(6);
        for (int l = 0; l < 6; l++) {
            gives(x, l, 10);
        }
        for (int l = 0; l < 6; l++) {
            due("of " + l, x.place(l, 0), 0);
            due("how much", x.place(l, 1), 0);
        }
    }

    @Says("it ahead of the k-th of these (from 0), or behind all")
    static void p14_place_behindAllIsAsManyAsTheOthers() {
        BakedBefore x = loaves(6);
        hold(x, 9999);
        for (int l = 0; l < 6; l++) {
            due("of " + l, x.place(l, 0), 5);
            due("how much", x.place(l, 1), 4 * 156);
        }
    }

    @Says("the k by which it TAKES the least of all TASTES, together (of several the first)")
    static void p14_place_ofSeveralTheFirst() {
        BakedBefore x = loaves(4);
        due("all alike", x.place(2, 0), 0);
        x = with(0, LOAF, CLEAN, CLEAN, LOAF);
        x.oven(0, 100);
        due("behind one that cleans, and all behind that", x.place(0, 0), 1);
        due("behind the others' second", x.place(3, 0), 2);
        due("how much", x.place(3, 1), 0);
    }

    @Says("all others are BAKED by numbers")
    static void p14_place_theKthOfTheOthersNotOfAll() {
        BakedBefore x = with(0, LOAF, LOAF, CLEAN);
        x.oven(0, 100);
        due("0 behind 1 and 2", x.place(0, 0), 2);
        due("1 behind 0 and 2", x.place(1, 0), 2);
        due("2 behind 0 and 1", x.place(2, 0), 2);
        due("2 behind 0 and 1 takes what they leave", x.place(2, 1), 25);
    }

    // ---- guilty

    @Says("GUILTY, as bits. NONE.")
    static void p15_guilty_noSuchLoafIsNone() {
        due("none at all", new BakedBefore().guilty(0), NONE);
        due("the next", loaves(2).guilty(2), NONE);
        due("one below 0", loaves(2).guilty(-1), NONE);
    }

    @Says("and it is SPOILED by that")
    static void p15_guilty_noneIfItIsNotSpoiled() {
        BakedBefore x = strongAndMild();
        gives(x, 0, 19);
        due("by 19", x.guilty(1), 0);
        gives(x, 0, 20);
        due("by 20", x.guilty(1), 1);
    }

    @Says("those ahead of it such that")
    static void p15_guilty_theFirstHasNoneAheadOfIt() {
        BakedBefore x = loaves(2);
        hold(x, 9999);
        due("the first", x.guilty(0), 0);
        x.oven(0, 0);
        gives(x, 1, 99);
        bears(x, 0, 0);
        due("not by one behind it", x.guilty(0), 0);
    }

    @Says("that one alone left out, it would not be, as bits (else 0)")
    static void p15_guilty_zeroIfNoOneAloneMakesItGood() {
        BakedBefore x = loaves(3);
        gives(x, 0, 80);
        gives(x, 1, 80);
        due("both too strong", x.guilty(2), 0);
        x = loaves(2);
        x.oven(0, 9999);
        due("THE OVEN itself too full", x.guilty(1), 0);
    }

    @Says("that one alone left out, it would not be, as bits (else 0)")
    static void p15_guilty_allFiveAheadOfTheLast() {
        BakedBefore x = with(0, HOLY, HOLY, HOLY, HOLY, HOLY, LOAF);
        for (int l = 0; l < 5; l++) {
            bears(x, l, 0);
            gives(x, l, 4);
        }
        due("by 20 of five", x.guilty(5), 31);
        gives(x, 4, 6);
        gives(x, 0, 2);
        due("by 20 of five, 2 of the first", x.guilty(5), 31);
        gives(x, 1, 6);
        due("by 22 of five, 2 of the first", x.guilty(5), 30);
    }

    // ---- two

    @Says("TWO OVENS: what 0 how many, 1 the set. NONE.")
    static void p16_two_noSuchWhatIsNone() {
        due("what -1", loaves(2).two(-1), NONE);
        due("what 2", loaves(2).two(2), NONE);
        due("what 2 without LOAVES", new BakedBefore().two(2), NONE);
    }

    @Says("of all ways to part the LOAVES in two")
    static void p16_two_withoutLoaves() {
        due("how many", new BakedBefore().two(0), 0);
        due("the set", new BakedBefore().two(1), 0);
    }

    @Says("of several the least set in the first one")
    static void p16_two_ofSeveralTheLeastSet() {
        BakedBefore x = loaves(6);
        due("none is SPOILED: all in the second one", x.two(1), 0);
        hold(x, 9999);
        due("all are SPOILED", x.two(0), 6);
        due("all are SPOILED: all in the second one", x.two(1), 0);
        x = strongAndMild();
        due("apart: the first in the first one", x.two(1), 1);
        x = loaves(3);
        gives(x, 1, 40);
        due("the third not behind the second", x.two(0), 0);
        due("2 in the first one, not 4, 3 or 5", x.two(1), 2);
    }

    @Says("that with the fewest SPOILED")
    static void p16_two_theFewestAheadOfTheLeastSet() {
        BakedBefore x = loaves(4);
        for (int l = 0; l < 4; l++) {
            gives(x, l, 60);
        }
        due("a first one in each", x.two(0), 2);
        due("the set", x.two(1), 1);
    }

    @Says("(both as THE OVEN is, each with its own HOURS from now)")
    static void p16_two_eachWithItsOwnHours() {
        BakedBefore x = loaves(2);
        x.oven(0, 20);
        kiln(x, "take 90 h=1");
        due("each is the first of its oven's HOURS", x.two(0), 0);
        due("apart", x.two(1), 1);
        kiln(x, "take 90 h=0");
        due("one behind the other, and the first SPOILED", x.two(0), 1);
        due("all in the second one", x.two(1), 0);
    }
}
