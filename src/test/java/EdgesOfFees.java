/** The boundary cases of promises 17 to 24: HAS, SWAPS, SPAN, YEAR, ODDS, MEAN, the BOOK, LOOKED. */
final class EdgesOfFees extends Bench {
    // ---- has

    @Says("What one HAS by PAYS. -100001: NONE.")
    static void p17_has_noSuchLoafIsMinus100001() {
        due("none at all", new BakedBefore().has(0), -100001);
        due("the next", loaves(2).has(2), -100001);
        due("one below 0", loaves(2).has(-1), -100001);
        due("MAX", loaves(6).has(MAX), -100001);
        due("MIN", loaves(6).has(MIN), -100001);
    }

    @Says("PAYS: of each two LOAVES i and i and 1")
    static void p17_has_anOnlyLoafHasNothing() {
        due("has(0)", loaves(1).has(0), 0);
    }

    @Says("PAYS: of each two LOAVES i and i and 1")
    static void p17_has_theFirstAndTheLastAreInOnePair() {
        BakedBefore x = loaves(6);
        kiln(x, "fee 9 l=1;fee 19 l=4;fee 29 l=5");
        due("the first pays FEE of 1", x.has(0), -10);
        due("the second gets its FEE, pays that of 2", x.has(1), 10 - 1);
        due("the last but one", x.has(4), 20 - 30);
        due("the last gets its FEE", x.has(5), 30);
    }

    @Says("if a BAKE of i just ahead of it makes the second TAKE less")
    static void p17_has_asMuchAsNowIsNotLess() {
        BakedBefore x = loaves(2);
        kiln(x, "fee 1 l=0;fee 2 l=1");
        due("none and none: the first pays", x.has(0), -3);
        due("none and none: the second gets", x.has(1), 3);
        x.oven(0, 2);
        due("1 and none: the second pays", x.has(1), -2);
        due("1 and none: the first gets", x.has(0), 2);
        gives(x, 0, 1);
        due("1 and 1: the first pays", x.has(0), -3);
        gives(x, 0, 3);
        due("1 and 2: the first pays", x.has(0), -3);
    }

    @Says("of all TASTES, together, than it would now")
    static void p17_has_lessOfOneAndMoreOfAnother() {
        BakedBefore x = loaves(2);
        x.oven(0, 20);
        x.set(0, 3, 0, 10);
        due("5 less and 5 more: the first pays", x.has(0), -1);
        x.set(0, 3, 0, 9);
        due("5 less and 4 more: the second pays", x.has(0), 1);
    }

    // ---- swaps

    @Says("SWAPS of a LOAF and the next one. NONE (also the last one).")
    static void p18_swaps_theLastIsNone() {
        for (int many = 1; many <= 6; many++) {
            BakedBefore x = loaves(many);
            due("the last of " + many, x.swaps(many - 1), NONE);
            due("the last but one of " + many, x.swaps(many - 2), many > 1 ? 0 : NONE);
        }
    }

    @Says("SWAPS of a LOAF and the next one. NONE (also the last one).")
    static void p18_swaps_noSuchLoafIsNone() {
        due("none at all", new BakedBefore().swaps(0), NONE);
        due("behind the last", loaves(2).swaps(2), NONE);
        due("one below 0", loaves(2).swaps(-1), NONE);
        due("MAX, whose next would wrap", loaves(2).swaps(MAX), NONE);
        due("MIN", loaves(2).swaps(MIN), NONE);
    }

    @Says("and one of them less (1, 0)")
    static void p18_swaps_noneLessIsZero() {
        due("none takes anything", loaves(2).swaps(0), 0);
        BakedBefore x = with(0, HOLY, HOLY);
        x.oven(0, 9999);
        due("each takes what it BEARS", x.swaps(0), 0);
    }

    @Says({"each of the two would TAKE no more of all TASTES", "and one of them less (1, 0)"})
    static void p18_swaps_oneLessAndTheOtherAsMuch() {
        BakedBefore x = loaves(2);
        gives(x, 0, 40);
        due("the second less", x.swaps(0), 1);
        gives(x, 0, 2);
        due("the second 1 less", x.swaps(0), 1);
        gives(x, 0, 1);
        due("the second as much", x.swaps(0), 0);
        x = with(0, LOAF, HOLY);
        x.oven(0, 100);
        due("the first less", x.swaps(0), 1);
    }

    @Says("each of the two would TAKE no more of all TASTES")
    static void p18_swaps_bothLess() {
        BakedBefore x = loaves(2);
        gives(x, 0, 40);
        x.oven(0, 10);
        due("swaps(0)", x.swaps(0), 1);
    }

    @Says("each of the two would TAKE no more of all TASTES")
    static void p18_swaps_oneMoreIsZero() {
        BakedBefore x = loaves(2);
        gives(x, 0, 40);
        gives(x, 1, 2);
        due("the second 20 less, the first 1 more", x.swaps(0), 0);
        x = with(0, LOAF, CLEAN);
        x.oven(0, 20);
        due("the first 10 less, the second 10 more", x.swaps(0), 0);
    }

    @Says("all being BAKED by numbers but these two changed")
    static void p18_swaps_thoseAheadOfThemAreBaked() {
        BakedBefore x = with(0, CLEAN, LOAF, HOLY);
        x.oven(0, 100);
        due("behind one that cleans, none less", x.swaps(1), 0);
        x = loaves(3);
        gives(x, 2, 99);
        due("by what is behind them nothing changes", x.swaps(0), 0);
    }

    // ---- span

    @Says("BAD: took (0 .. 9999)")
    static void p19_span_tookBelowZeroAndBeyond9999IsBad() {
        for (int what = 0; what < 2; what++) {
            due("took -1", loaves(1).span(0, 0, -1, what), BAD);
            due("took 10000", loaves(1).span(0, 0, 10000, what), BAD);
            due("took MIN", loaves(1).span(0, 0, MIN, what), BAD);
            due("took MAX", loaves(1).span(0, 0, MAX, what), BAD);
        }
    }

    @Says("NONE: loaf, taste, what")
    static void p19_span_noSuchLoafTasteWhatIsNone() {
        due("none at all", new BakedBefore().span(0, 0, 0, 0), NONE);
        due("the next", loaves(2).span(2, 0, 0, 0), NONE);
        due("one below 0", loaves(2).span(-1, 0, 0, 0), NONE);
        due("taste 4", loaves(2).span(0, 4, 0, 0), NONE);
        due("taste -1", loaves(2).span(0, -1, 0, 0), NONE);
        due("what 2", loaves(2).span(0, 0, 0, 2), NONE);
        due("what -1", loaves(2).span(0, 0, 0, -1), NONE);
    }

    @Says("the first that a call's words name")
    static void p19_span_noneAheadOfBad() {
        due("loaf and took", loaves(1).span(1, 0, -1, 0), NONE);
        due("taste and took", loaves(1).span(0, 4, 10000, 0), NONE);
        due("what and took", loaves(1).span(0, 0, -1, 2), NONE);
    }

    @Says("the least, the greatest that THE OVEN could hold of it (0 .. 9999)")
    static void p19_span_fromZeroAndTo9999() {
        span(loaves(1), 0, 0, 1);
        span(loaves(1), 4999, 9998, 9999);
        span(with(0, CLEAN), 0, 0, 0);
        span(with(0, CLEAN), 9999, 9999, 9999);
        span(with(9, RYE), 0, 0, 9);
        span(with(9, RYE), 9990, 9999, 9999);
        span(with(0, GREEDY), 9998, 9998, 9999);
        span(with(0, HOLY), 9, 18, 9999);
        span(with(0, SHY), 4, 16, 9999);
        span(with(0, SHY), 0, 0, 3);
        BakedBefore x = loaves(1);
        kiln(x, "take 0 t=0");
        span(x, 0, 0, 9999);
    }

    @Says("so that it TAKES just that (-5: none)")
    static void p19_span_minusFiveIfItTakesThatOfNothing() {
        span(loaves(1), 5000, ABSENT, ABSENT);
        span(loaves(1), 9999, ABSENT, ABSENT);
        span(with(9, RYE), 9991, ABSENT, ABSENT);
        span(with(0, HOLY), 10, ABSENT, ABSENT);
        span(with(0, SHY), 5, ABSENT, ABSENT);
        span(with(0, GREEDY), 1, ABSENT, ABSENT);
        span(with(0, POISONED), 9997, ABSENT, ABSENT);
        BakedBefore x = loaves(1);
        kiln(x, "take 0 t=0");
        span(x, 1, ABSENT, ABSENT);
    }

    @Says({"SPAN of a TASTE by what a LOAF took of it", "by 10 (cut)"})
    static void p19_span_overTheTensOfTheOven() {
        BakedBefore x = loaves(1);
        kiln(x, "take 50 o=99");
        span(x, 495, 990, 991);
        span(x, 499, 998, 999);
        span(x, 500, ABSENT, ABSENT);
        span(x, 494, ABSENT, ABSENT);
        span(x, 0, 0, 9999);
        kiln(x, "take 50 o>99");
        span(x, 500, 1000, 1001);
        span(x, 499, ABSENT, ABSENT);
        span(x, 0, 0, 999);
        kiln(x, "take 50 o<2;take 10 o>1");
        span(x, 2, 4, 29);
        span(x, 9, 18, 99);
        span(x, 10, 100, 109);
    }

    @Says("all else as now")
    static void p19_span_allElseAsNow() {
        BakedBefore x = loaves(2);
        kiln(x, "take 50 h=0&l=1&t<4");
        x.oven(0, 7);
        due("of the other LOAF", x.span(0, 0, 0, 1), 9999);
        due("of that one", x.span(1, 0, 0, 1), 1);
        x.cold();
        due("of that one an HOUR later", x.span(1, 0, 0, 1), 9999);
    }

    private static void span(BakedBefore x, int took, int least, int greatest) {
        for (int t = 0; t < 4; t++) {
            due("span(0, " + t + ", " + took + ", 0)", x.span(0, t, took, 0), least);
            due("span(0, " + t + ", " + took + ", 1)", x.span(0, t, took, 1), greatest);
        }
    }

    // ---- year

    /** A LOAF that is SPOILED by any BAKE, as THE OVEN is never without taste. */
    private static BakedBefore everSpoiled() {
        BakedBefore x = loaves(1);
        for (int t = 0; t < 4; t++) {
            x.set(0, t, 0, 99);
            x.set(0, t, 1, 0);
        }
        hold(x, 99);
        return x;
    }

    @Says("-100001: NONE: what")
    static void p20_year_noSuchWhatIsMinus100001() {
        due("what -1", loaves(1).year(1, 2, -1), -100001);
        due("what 5", loaves(1).year(1, 2, 5), -100001);
        due("what MIN", loaves(1).year(1, 2, MIN), -100001);
        due("what 4", loaves(1).year(1, 2, 4), 0);
    }

    @Says("YEAR: n times (0 .. 60)")
    static void p20_year_nBelowZeroAndBeyond60IsMinus100002() {
        due("n -1", loaves(1).year(-1, 2, 0), -100002);
        due("n 61", loaves(1).year(61, 2, 0), -100002);
        due("n MIN", loaves(1).year(MIN, 2, 0), -100002);
        due("n MAX", loaves(1).year(MAX, 2, 0), -100002);
    }

    @Says("if HOUR is a multiple of f (2 .. 30)")
    static void p20_year_fBelowTwoAndBeyond30IsMinus100002() {
        due("f 1", loaves(1).year(1, 1, 0), -100002);
        due("f 0", loaves(1).year(1, 0, 0), -100002);
        due("f -2", loaves(1).year(1, -2, 0), -100002);
        due("f 31", loaves(1).year(1, 31, 0), -100002);
        due("f MIN", loaves(1).year(1, MIN, 0), -100002);
        due("f MAX", loaves(1).year(0, MAX, 0), -100002);
    }

    @Says("-100003: STATE: there are no LOAVES")
    static void p20_year_withoutLoavesIsMinus100003() {
        due("n 1", new BakedBefore().year(1, 2, 0), -100003);
        due("n 0", new BakedBefore().year(0, 2, 4), -100003);
    }

    @Says("the first that a call's words name")
    static void p20_year_noneAheadOfBadAheadOfState() {
        due("all", new BakedBefore().year(61, 1, 5), -100001);
        due("what and LOAVES", new BakedBefore().year(1, 2, -1), -100001);
        due("n and LOAVES", new BakedBefore().year(61, 2, 0), -100002);
        due("f and LOAVES", new BakedBefore().year(1, 31, 0), -100002);
        due("what and n", loaves(1).year(-1, 2, 5), -100001);
    }

    @Says("YEAR: n times (0 .. 60)")
    static void p20_year_nZeroIsAsNow() {
        BakedBefore x = everSpoiled();
        for (int t = 0; t < 4; t++) {
            x.oven(t, 7 + t);
            due("what " + t, x.year(0, 2, t), 7 + t);
        }
        due("SPOILED", x.year(0, 30, 4), 0);
    }

    @Says({"YEAR: n times (0 .. 60)", "4 how many were SPOILED"})
    static void p20_year_sixtyTimes() {
        BakedBefore x = everSpoiled();
        due("f 30: all but HOURS 0 and 30", x.year(60, 30, 4), 58);
        due("f 29: all but HOURS 0, 29 and 58", x.year(60, 29, 4), 57);
        due("f 2: the half", x.year(60, 2, 4), 30);
        due("59 times, f 2", x.year(59, 2, 4), 29);
    }

    @Says("a COLD HOUR, if HOUR is a multiple of f (2 .. 30)")
    static void p20_year_hourZeroIsAMultiple() {
        BakedBefore x = everSpoiled();
        x.oven(0, 80);
        for (int f = 2; f <= 30; f++) {
            due("f " + f, x.year(1, f, 0), 40);
        }
        x.cold();
        x.oven(0, 80);
        for (int f = 2; f <= 30; f++) {
            due("HOUR 1, f " + f, x.year(1, f, 0), 139);
        }
    }

    @Says("a COLD HOUR, if HOUR is a multiple of f (2 .. 30)")
    static void p20_year_hourIsNotModuloSixty() {
        BakedBefore x = everSpoiled();
        for (int i = 0; i < 61; i++) {
            x.cold();
        }
        x.oven(0, 99);
        due("HOURS 61 to 120, f 11: all but 66, 77, 88, 99, 110", x.year(60, 11, 4), 55);
    }

    @Says("else a BAKE of the next LOAF (by numbers, over and over, from 0 on)")
    static void p20_year_overAndOverFromZeroOn() {
        BakedBefore x = with(0, CLEAN, LOAF, LOAF);
        x.cold();
        x.set(1, 1, 0, 10);
        x.set(2, 2, 0, 20);
        x.oven(0, 50);
        x.bake(1);
        x.cold();
        hold(x, 50);
        // from HOUR 3 on, f 30: 0, 1, 2, 0, 1, ..
        due("none: 1", x.year(0, 30, 1), 50);
        due("0 cleans: 1", x.year(1, 30, 1), 0);
        due("1 gives: 1", x.year(2, 30, 1), 10);
        due("2 takes: 1", x.year(3, 30, 1), 5);
        due("2 gives: 2", x.year(3, 30, 2), 20);
        due("0 cleans: 2", x.year(4, 30, 2), 0);
        due("1 gives anew: 1", x.year(5, 30, 1), 10);
    }

    // ---- odds

    @Says("part 0 above, 1 below the line. NO: also if there is no other.")
    static void p21_odds_noSuchLoafOrPartIsNo() {
        due("none at all", new BakedBefore().odds(0, 0), NO);
        due("the next", loaves(2).odds(2, 0), NO);
        due("one below 0", loaves(2).odds(-1, 1), NO);
        due("part -1", loaves(2).odds(0, -1), NO);
        due("part 2", loaves(2).odds(0, 2), NO);
    }

    @Says("NO: also if there is no other")
    static void p21_odds_ofAnOnlyLoafIsNo() {
        due("above", loaves(1).odds(0, 0), NO);
        due("below", loaves(1).odds(0, 1), NO);
        due("of two, above", loaves(2).odds(0, 0), 0);
        due("of two, below", loaves(2).odds(1, 1), 1);
    }

    @Says("how likely it is SPOILED: a fraction in lowest terms")
    static void p21_odds_noneAllAndLowestTerms() {
        int[] above = {0, 1, 1, 3, 1};
        int[] below = {1, 4, 2, 4, 1};
        BakedBefore x = loaves(5);
        for (int strong = 0; strong < 5; strong++) {
            due(strong + " by 4, above", x.odds(0, 0), above[strong]);
            due(strong + " by 4, below", x.odds(0, 1), below[strong]);
            if (strong < 4) {
                gives(x, strong + 1, 40);
            }
        }
    }

    @Says("if some one of the others, each alike likely, is BAKED just ahead of it")
    static void p21_odds_ofTheOthersNotItself() {
        BakedBefore x = loaves(6);
        gives(x, 5, 40);
        due("of the strong one, above", x.odds(5, 0), 0);
        due("of the strong one, below", x.odds(5, 1), 1);
        due("of the first, above", x.odds(0, 0), 1);
        due("of the first, below", x.odds(0, 1), 5);
    }

    @Says("if some one of the others, each alike likely, is BAKED just ahead of it")
    static void p21_odds_theFirstAndTheLastAreOthersToo() {
        BakedBefore x = loaves(4);
        gives(x, 0, 40);
        due("by the first, above", x.odds(1, 0), 1);
        due("by the first, below", x.odds(1, 1), 3);
        gives(x, 0, 0);
        gives(x, 3, 40);
        due("by the last, above", x.odds(1, 0), 1);
        due("by the last, below", x.odds(1, 1), 3);
    }

    // ---- mean

    @Says("MEAN; part likewise. NO: also without LOAVES.")
    static void p22_mean_noSuchTasteOrPartIsNo() {
        due("taste 4", loaves(2).mean(4, 0), NO);
        due("taste -1", loaves(2).mean(-1, 0), NO);
        due("part -1", loaves(2).mean(0, -1), NO);
        due("part 2", loaves(2).mean(0, 2), NO);
    }

    @Says("NO: also without LOAVES")
    static void p22_mean_withoutLoavesIsNo() {
        due("above", new BakedBefore().mean(0, 0), NO);
        due("below", new BakedBefore().mean(3, 1), NO);
    }

    @Says("by how many they are: a fraction in lowest terms")
    static void p22_mean_ofNothingIsNoneByOne() {
        for (int many = 1; many <= 6; many++) {
            due("of " + many + ", above", loaves(many).mean(3, 0), 0);
            due("of " + many + ", below", loaves(many).mean(3, 1), 1);
        }
    }

    @Says("of all LOAVES what they would TAKE now, together")
    static void p22_mean_ofAsMuchAsCanBe() {
        BakedBefore x = with(0, CLEAN, CLEAN, CLEAN, CLEAN, CLEAN, LOAF);
        x.oven(2, 9999);
        due("54994 by 6, above", x.mean(2, 0), 27497);
        due("54994 by 6, below", x.mean(2, 1), 3);
        x.oven(2, 1);
        due("5 by 6, above", x.mean(2, 0), 5);
        due("5 by 6, below", x.mean(2, 1), 6);
        x = with(0, CLEAN, CLEAN);
        x.oven(2, 9999);
        due("two alike, above", x.mean(2, 0), 9999);
        due("two alike, below", x.mean(2, 1), 1);
    }

    // ---- book

    @Says("NONE: loaf (-2: a COLD HOUR); FULL: 12.")
    static void p23_book_noSuchLoafIsNone() {
        due("none at all", new BakedBefore().book(0, true), NONE);
        due("the next", loaves(2).book(2, true), NONE);
        due("-3", loaves(2).book(-3, false), NONE);
        due("MIN", loaves(2).book(MIN, false), NONE);
    }

    @Says("A BOOK told by hand: LOAVES (-2: a COLD HOUR; 12 at most)")
    static void p23_book_aColdHourWithoutLoaves() {
        due("book(-2, false)", new BakedBefore().book(-2, false), 1);
        due("book(-2, true)", new BakedBefore().book(-2, true), 1);
    }

    @Says("(loaf -1: it is empty then, 0, whatever the other is)")
    static void p23_book_minusOneEmptiesIt() {
        BakedBefore x = loaves(1);
        due("an empty one", x.book(-1, true), 0);
        x.book(0, true);
        x.book(-2, false);
        due("one of two, true", x.book(-1, true), 0);
        due("count(2)", x.count(2), 0);
        due("looked()", x.looked(), ABSENT);
        x.book(0, true);
        due("one of one, false", x.book(-1, false), 0);
        due("anew", x.book(0, false), 1);
    }

    @Says("NONE: loaf (-2: a COLD HOUR); FULL: 12.")
    static void p23_book_theTwelfthComesAndTheThirteenthIsFull() {
        BakedBefore x = loaves(1);
        for (int row = 1; row <= 12; row++) {
            due("row " + row, x.book(0, false), row);
        }
        due("the 13th", x.book(0, true), FULL);
        due("the 13th, a COLD HOUR", x.book(-2, true), FULL);
        due("count(2)", x.count(2), 12);
        due("none of them came", x.looked(), ABSENT);
        due("-1 empties it", x.book(-1, true), 0);
    }

    @Says("the first that a call's words name")
    static void p23_book_noneAheadOfFull() {
        BakedBefore x = loaves(1);
        for (int row = 1; row <= 12; row++) {
            x.book(0, false);
        }
        due("the 13th of no LOAF", x.book(1, false), NONE);
        due("the 13th of -3", x.book(-3, false), NONE);
    }

    // ---- looked

    @Says("(a COLD HOUR is not SPOILED; -5: none)")
    static void p24_looked_minusFiveIfNoneIsOtherwise() {
        due("without LOAVES", new BakedBefore().looked(), ABSENT);
        BakedBefore x = loaves(1);
        due("an empty BOOK", x.looked(), ABSENT);
        x.book(0, false);
        x.book(-2, false);
        due("all as told", x.looked(), ABSENT);
        hold(x, 20);
        x.book(-1, true);
        x.book(0, true);
        due("SPOILED as told", x.looked(), ABSENT);
    }

    @Says("(a COLD HOUR is not SPOILED; -5: none)")
    static void p24_looked_aColdHourToldSpoiledIsOtherwise() {
        BakedBefore x = loaves(1);
        hold(x, 9999);
        x.book(-2, false);
        due("not SPOILED", x.looked(), ABSENT);
        x.book(-2, true);
        due("SPOILED", x.looked(), 1);
    }

    @Says("LOOKED at: the first of which that is otherwise")
    static void p24_looked_theFirstRowAndTheTwelfth() {
        BakedBefore x = loaves(1);
        for (int row = 0; row < 12; row++) {
            x.book(0, row == 11);
        }
        due("the twelfth", x.looked(), 11);
        hold(x, 20);
        due("the first", x.looked(), 0);
        x.book(-1, true);
        x.book(0, false);
        x.book(0, true);
        x.book(-2, true);
        due("of three the first", x.looked(), 0);
    }

    @Says("gone through one behind the other")
    static void p24_looked_eachGoesOnFromTheOneAhead() {
        BakedBefore x = loaves(2);
        gives(x, 0, 40);
        x.book(0, false);
        x.book(1, true);
        due("the second by the first", x.looked(), ABSENT);
        x.book(-1, false);
        x.book(0, false);
        x.book(-2, false);
        x.book(-2, false);
        x.book(1, false);
        due("two COLD HOURS between", x.looked(), ABSENT);
        x.book(1, true);
        due("one more behind", x.looked(), 4);
    }
}
