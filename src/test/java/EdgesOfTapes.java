/** The boundary cases of promises 25 and 32 to 35: JUDGED, TAPES, their items, what comes from one to another. */
final class EdgesOfTapes extends Bench {
    /** A TAPE 0 that is a row of the sort, with these items. */
    private static BakedBefore row(int sort, long... items) {
        BakedBefore x = new BakedBefore();
        x.tape(0, sort, items.length);
        for (int i = 0; i < items.length; i++) {
            x.item(0, i, items[i]);
        }
        return x;
    }

    private static void isRow(BakedBefore x, int tape, long... items) {
        for (int i = 0; i < items.length; i++) {
            due("item " + i + " of TAPE " + tape, x.read(tape, i), items[i]);
        }
        due("behind the last of TAPE " + tape, x.read(tape, items.length), NO);
    }

    // ---- judge

    @Says("JUDGED from place i of a TAPE on. NONE: tape; CAST: it is no row of shorts.")
    static void p25_judge_noSuchTapeIsNone() {
        due("TAPE -1", new BakedBefore().judge(-1, 0), NONE);
        due("TAPE 6", new BakedBefore().judge(6, 0), NONE);
        due("TAPE MAX", new BakedBefore().judge(MAX, -1), NONE);
        due("TAPE MIN", new BakedBefore().judge(MIN, -1), NONE);
    }

    @Says("CAST: it is no row of shorts")
    static void p25_judge_aRowOfAnotherSortIsCast() {
        int[] sorts = {BYTES, INTS, LONGS, BOOLEANS};
        for (int sort : sorts) {
            due("sort " + sort, row(sort, 0, 0, 0, 0).judge(0, 0), CAST);
            due("sort " + sort + ", of no items", row(sort).judge(0, 0), CAST);
            due("sort " + sort + ", from below 0", row(sort, 0, 0, 0, 0).judge(0, -1), CAST);
            due("sort " + sort + ", from behind it", row(sort, 0, 0, 0, 0).judge(0, 4), CAST);
        }
        due("shorts", row(SHORTS, 0, 0, 0, 0).judge(0, 0), ABSENT);
    }

    @Says("or the TAPE holds nothing")
    static void p25_judge_aTapeThatHoldsNothingIs100() {
        BakedBefore x = row(SHORTS, 0, 0, 0, 0);
        due("never a row", x.judge(1, 0), 100);
        due("never a row, from below 0", x.judge(1, -1), 100);
        x.tape(0, -1, 0);
        due("no more a row", x.judge(0, 0), 100);
        x.tape(0, LONGS, 4);
        x.tape(0, -1, 0);
        due("no more a row of another sort", x.judge(0, 0), 100);
    }

    @Says("(or the place is below 0, or the TAPE holds nothing)")
    static void p25_judge_aPlaceBelowZeroIs100() {
        BakedBefore x = row(SHORTS, 0, 0, 0, 0, 0, 0);
        due("-1", x.judge(0, -1), 100);
        due("-4", x.judge(0, -4), 100);
        due("MIN", x.judge(0, MIN), 100);
        x.oven(0, 5);
        due("-1, also if 0 is otherwise", x.judge(0, -1), 100);
    }

    @Says("100 and how many were looked at, if the row ends ahead of that")
    static void p25_judge_theRowEndsAheadOfThat() {
        BakedBefore x = row(SHORTS, 0, 0, 0, 0);
        due("from 0", x.judge(0, 0), ABSENT);
        due("from 1", x.judge(0, 1), 103);
        due("from 2", x.judge(0, 2), 102);
        due("from 3", x.judge(0, 3), 101);
        due("from its end", x.judge(0, 4), 100);
        due("from behind its end", x.judge(0, 5), 100);
        due("from MAX", x.judge(0, MAX), 100);
        due("from MAX less 3", x.judge(0, MAX - 3), 100);
        due("of no items", row(SHORTS).judge(0, 0), 100);
    }

    @Says("100 and how many were looked at, if the row ends ahead of that")
    static void p25_judge_aLongestRowEndsAt60() {
        BakedBefore x = row(SHORTS, new long[60]);
        due("from 56", x.judge(0, 56), ABSENT);
        due("from 57", x.judge(0, 57), 103);
        due("from 59", x.judge(0, 59), 101);
        due("from 60", x.judge(0, 60), 100);
    }

    @Says("the first of which it is otherwise; -5: none")
    static void p25_judge_theFirstThatIsOtherwise() {
        BakedBefore x = row(SHORTS, 9, 7, 8, 0, 9999, 9);
        int[] held = {7, 8, 0, 9999};
        for (int t = 0; t < 4; t++) {
            x.oven(t, held[t]);
        }
        due("none", x.judge(0, 1), ABSENT);
        for (int t = 3; t >= 0; t--) {
            x.oven(t, 1000 + t);
            due("of " + t + " on", x.judge(0, 1), t);
        }
    }

    @Says("if the row ends ahead of that")
    static void p25_judge_otherwiseAheadOfItsEnd() {
        BakedBefore x = row(SHORTS, 0, 1);
        due("the last", x.judge(0, 0), 1);
        due("the last alone", x.judge(0, 1), 0);
        x.oven(0, 5);
        due("the first", x.judge(0, 0), 0);
    }

    @Says("(its lowest bits, as many as an item has")
    static void p25_judge_byTheShortThatStandsThere() {
        BakedBefore x = row(SHORTS, 65536 + 9999, 65535, 0, 0);
        x.oven(0, 9999);
        due("9999 and 65536 is 9999, 65535 is -1", x.judge(0, 0), 1);
    }

    // ---- tape

    @Says("NONE: tape; BAD: sort, n above 60; SIZE.")
    static void p32_tape_noSuchTapeIsNone() {
        due("TAPE -1", new BakedBefore().tape(-1, BYTES, 1), NONE);
        due("TAPE 6", new BakedBefore().tape(6, BYTES, 1), NONE);
        due("TAPE 5", new BakedBefore().tape(5, BYTES, 1), 1);
        due("TAPE 0", new BakedBefore().tape(0, BYTES, 1), 1);
        due("TAPE 6, to hold nothing", new BakedBefore().tape(6, -1, 1), NONE);
    }

    @Says("NONE: tape; BAD: sort, n above 60; SIZE.")
    static void p32_tape_noSuchSortIsBad() {
        due("sort -2", new BakedBefore().tape(0, -2, 1), BAD);
        due("sort 5", new BakedBefore().tape(0, 5, 1), BAD);
        due("sort MIN", new BakedBefore().tape(0, MIN, 1), BAD);
        due("sort MAX", new BakedBefore().tape(0, MAX, 1), BAD);
        due("sort 4", new BakedBefore().tape(0, 4, 1), 1);
    }

    @Says("a row of n (0 .. 60) of a sort, all 0")
    static void p32_tape_rowsOfNoneAndOfSixty() {
        for (int sort = 0; sort < 5; sort++) {
            BakedBefore x = new BakedBefore();
            due("of none", x.tape(0, sort, 0), 1);
            due("no item", x.read(0, 0), NO);
            due("no place", x.item(0, 0, 1), PLACE);
            due("of sixty", x.tape(1, sort, 60), 1);
            due("the last", x.read(1, 59), 0);
            due("behind the last", x.read(1, 60), NO);
        }
    }

    @Says("BAD: sort, n above 60")
    static void p32_tape_sixtyOneIsBad() {
        due("61", new BakedBefore().tape(0, INTS, 61), BAD);
        due("MAX", new BakedBefore().tape(0, LONGS, MAX), BAD);
    }

    @Says("SIZE (-14): a size below 0")
    static void p32_tape_nBelowZeroIsSize() {
        due("-1", new BakedBefore().tape(0, BYTES, -1), SIZE);
        due("MIN", new BakedBefore().tape(5, BOOLEANS, MIN), SIZE);
    }

    @Says("the first that a call's words name")
    static void p32_tape_noneAheadOfBadAheadOfSize() {
        due("tape and sort", new BakedBefore().tape(6, 5, 1), NONE);
        due("tape and n", new BakedBefore().tape(-1, 0, 61), NONE);
        due("tape and size", new BakedBefore().tape(-1, 0, -1), NONE);
        due("sort 5 and size", new BakedBefore().tape(0, 5, -1), BAD);
        due("sort -2 and size", new BakedBefore().tape(0, -2, -1), BAD);
    }

    @Says("or holds nothing (sort -1: n does not matter)")
    static void p32_tape_holdsNothingWhateverN() {
        int[] sizes = {0, 60, 61, -1, MAX, MIN};
        for (int n : sizes) {
            BakedBefore x = row(INTS, 1, 2);
            due("tape(0, -1, " + n + ")", x.tape(0, -1, n), 1);
            due("item(0, 0, 1)", x.item(0, 0, 1), NOTHING);
            due("read(0, 0)", x.read(0, 0), NO);
        }
    }

    @Says("A TAPE becomes a row of n (0 .. 60) of a sort, all 0")
    static void p32_tape_anewAllAreZero() {
        BakedBefore x = row(LONGS, 7, 8, 9);
        x.tape(0, LONGS, 3);
        isRow(x, 0, 0, 0, 0);
        x.item(0, 2, 9);
        x.tape(0, LONGS, 1);
        x.tape(0, LONGS, 3);
        isRow(x, 0, 0, 0, 0);
        x.item(0, 2, 9);
        x.tape(0, -1, 3);
        x.tape(0, BYTES, 3);
        isRow(x, 0, 0, 0, 0);
    }

    @Says("A TAPE becomes a row of n")
    static void p32_tape_theOthersStay() {
        BakedBefore x = row(BYTES, 5);
        x.tape(1, BYTES, 2);
        isRow(x, 0, 5);
        x.tape(1, -1, 0);
        isRow(x, 0, 5);
    }

    // ---- item

    @Says("NONE; NOTHING; PLACE.")
    static void p33_item_noSuchTapeIsNone() {
        due("TAPE -1", new BakedBefore().item(-1, 0, 1), NONE);
        due("TAPE 6", new BakedBefore().item(6, 0, 1), NONE);
        due("TAPE MAX", new BakedBefore().item(MAX, -1, 1), NONE);
    }

    @Says("NOTHING (-11): nothing is there")
    static void p33_item_ofATapeThatHoldsNothing() {
        due("never a row", new BakedBefore().item(5, 0, 1), NOTHING);
        BakedBefore x = row(BYTES, 1);
        x.tape(0, -1, 0);
        due("no more a row", x.item(0, 0, 1), NOTHING);
    }

    @Says("PLACE (-13): no such place")
    static void p33_item_noSuchPlaceIsPlace() {
        for (int sort = 0; sort < 5; sort++) {
            BakedBefore x = row(sort, 0, 0, 0);
            due("at 3", x.item(0, 3, 1), PLACE);
            due("at -1", x.item(0, -1, 1), PLACE);
            due("at MAX", x.item(0, MAX, 1), PLACE);
            due("at MIN", x.item(0, MIN, 1), PLACE);
            due("at 2", x.item(0, 2, 1), 1);
            isRow(x, 0, 0, 0, 1);
        }
        due("at 60 of 60", row(BYTES, new long[60]).item(0, 60, 1), PLACE);
        due("at 59 of 60", row(BYTES, new long[60]).item(0, 59, 1), 1);
    }

    @Says("the first that a call's words name")
    static void p33_item_noneAheadOfNothingAheadOfPlace() {
        due("tape and place", new BakedBefore().item(6, -1, 1), NONE);
        due("nothing and place", new BakedBefore().item(0, -1, 1), NOTHING);
    }

    @Says("(its lowest bits, as many as an item has")
    static void p33_item_bytesWrapAt128() {
        becomes(BYTES, 127, 127);
        becomes(BYTES, 128, -128);
        becomes(BYTES, -128, -128);
        becomes(BYTES, -129, 127);
        becomes(BYTES, 255, -1);
        becomes(BYTES, 256, 0);
        becomes(BYTES, Long.MAX_VALUE, -1);
        becomes(BYTES, Long.MIN_VALUE, 0);
    }

    @Says("(its lowest bits, as many as an item has")
    static void p33_item_shortsWrapAt32768() {
        becomes(SHORTS, 32767, 32767);
        becomes(SHORTS, 32768, -32768);
        becomes(SHORTS, -32769, 32767);
        becomes(SHORTS, 65535, -1);
        becomes(SHORTS, 65536, 0);
        becomes(SHORTS, Long.MAX_VALUE, -1);
        becomes(SHORTS, Long.MIN_VALUE, 0);
    }

    @Says("(its lowest bits, as many as an item has")
    static void p33_item_intsWrapAtTheirEnds() {
        becomes(INTS, MAX, MAX);
        becomes(INTS, MAX + 1L, MIN);
        becomes(INTS, MIN - 1L, MAX);
        becomes(INTS, 1L << 32, 0);
        becomes(INTS, Long.MAX_VALUE, -1);
        becomes(INTS, Long.MIN_VALUE, 0);
    }

    @Says("(its lowest bits, as many as an item has")
    static void p33_item_longsAreWhole() {
        becomes(LONGS, Long.MAX_VALUE, Long.MAX_VALUE);
        becomes(LONGS, Long.MIN_VALUE, Long.MIN_VALUE);
        becomes(LONGS, -1, -1);
    }

    @Says("booleans: whether v is not 0")
    static void p33_item_booleansAreWhetherNotZero() {
        becomes(BOOLEANS, 0, 0);
        becomes(BOOLEANS, 1, 1);
        becomes(BOOLEANS, 2, 1);
        becomes(BOOLEANS, -1, 1);
        becomes(BOOLEANS, 1L << 32, 1);
        becomes(BOOLEANS, Long.MIN_VALUE, 1);
    }

    private static void becomes(int sort, long v, long want) {
        BakedBefore x = row(sort, 0, 0, 0);
        due("item(0, 1, " + v + ")", x.item(0, 1, v), 1);
        isRow(x, 0, 0, want, 0);
    }

    // ---- read

    @Says("NO: no such TAPE, nothing there, no such place.")
    static void p34_read_noSuchTapeIsNo() {
        due("TAPE -1", new BakedBefore().read(-1, 0), NO);
        due("TAPE 6", new BakedBefore().read(6, 0), NO);
        due("TAPE MAX", new BakedBefore().read(MAX, 0), NO);
        due("TAPE MIN", new BakedBefore().read(MIN, 0), NO);
    }

    @Says("NO: no such TAPE, nothing there, no such place.")
    static void p34_read_nothingThereIsNo() {
        due("never a row", new BakedBefore().read(0, 0), NO);
        BakedBefore x = row(LONGS, 7);
        x.tape(0, -1, 1);
        due("no more a row", x.read(0, 0), NO);
    }

    @Says("NO: no such TAPE, nothing there, no such place.")
    static void p34_read_noSuchPlaceIsNo() {
        BakedBefore x = row(LONGS, 7, 8);
        due("the last", x.read(0, 1), 8);
        due("behind the last", x.read(0, 2), NO);
        due("-1", x.read(0, -1), NO);
        due("MAX", x.read(0, MAX), NO);
        due("MIN", x.read(0, MIN), NO);
        due("of none", row(LONGS).read(0, 0), NO);
    }

    // ---- shift

    @Says("NONE: tapes; NOTHING; CAST: of unlike sorts")
    static void p35_shift_noSuchTapesAreNone() {
        BakedBefore x = row(BYTES, 1);
        due("the one -1", x.shift(-1, 0, 0, 0, 1), NONE);
        due("the one 6", x.shift(6, 0, 0, 0, 1), NONE);
        due("the other -1", x.shift(0, 0, -1, 0, 1), NONE);
        due("the other 6", x.shift(0, 0, 6, 0, 1), NONE);
        due("the one MAX", x.shift(MAX, 0, 0, 0, 1), NONE);
        due("the other MIN", x.shift(0, 0, MIN, 0, 1), NONE);
    }

    @Says("NONE: tapes; NOTHING; CAST: of unlike sorts")
    static void p35_shift_ofOrToNothing() {
        BakedBefore x = row(BYTES, 1);
        due("from nothing", x.shift(1, 0, 0, 0, 1), NOTHING);
        due("to nothing", x.shift(0, 0, 1, 0, 1), NOTHING);
        due("from nothing to nothing", x.shift(1, 0, 2, 0, 0), NOTHING);
        due("nothing to itself", x.shift(1, 0, 1, 0, 0), NOTHING);
    }

    @Says("CAST: of unlike sorts")
    static void p35_shift_ofUnlikeSortsIsCast() {
        for (int a = 0; a < 5; a++) {
            for (int b = 0; b < 5; b++) {
                BakedBefore x = row(a, 1, 1);
                x.tape(1, b, 2);
                due("from " + a + " to " + b, x.shift(0, 0, 1, 0, 2), a == b ? 2 : CAST);
            }
        }
        BakedBefore x = row(BYTES, 1, 1);
        x.tape(1, SHORTS, 2);
        due("of no items", x.shift(0, 0, 1, 0, 0), CAST);
    }

    @Says("PLACE: n, i or j is below 0")
    static void p35_shift_belowZeroIsPlace() {
        BakedBefore x = row(BYTES, 1, 2, 3, 4);
        due("n -1", x.shift(0, 1, 0, 1, -1), PLACE);
        due("i -1", x.shift(0, -1, 0, 1, 1), PLACE);
        due("j -1", x.shift(0, 1, 0, -1, 1), PLACE);
        due("i -1 and n 0", x.shift(0, -1, 0, 1, 0), PLACE);
        due("j -1 and n 0", x.shift(0, 1, 0, -1, 0), PLACE);
        due("n MIN", x.shift(0, 1, 0, 1, MIN), PLACE);
        due("i MIN", x.shift(0, MIN, 0, 1, 1), PLACE);
        due("j MIN", x.shift(0, 1, 0, MIN, 1), PLACE);
        isRow(x, 0, 1, 2, 3, 4);
    }

    @Says("or beyond either's end")
    static void p35_shift_beyondEithersEndIsPlace() {
        BakedBefore x = row(BYTES, 1, 2, 3, 4);
        x.tape(1, BYTES, 2);
        due("all of the other", x.shift(0, 2, 1, 0, 2), 2);
        due("one beyond the one's end", x.shift(0, 3, 1, 0, 2), PLACE);
        due("one beyond the other's end", x.shift(0, 0, 1, 1, 2), PLACE);
        due("more than the other has", x.shift(0, 0, 1, 0, 3), PLACE);
        due("more than the one has", x.shift(1, 0, 0, 0, 3), PLACE);
        due("from its end", x.shift(0, 4, 1, 0, 1), PLACE);
        due("to its end", x.shift(0, 0, 1, 2, 1), PLACE);
        isRow(x, 0, 1, 2, 3, 4);
        isRow(x, 1, 3, 4);
    }

    @Says("or beyond either's end")
    static void p35_shift_sumsThatWrapArePlace() {
        BakedBefore x = row(BYTES, 1, 2, 3, 4);
        due("n MAX from 1", x.shift(0, 1, 0, 0, MAX), PLACE);
        due("n MAX to 1", x.shift(0, 0, 0, 1, MAX), PLACE);
        due("i MAX", x.shift(0, MAX, 0, 0, 1), PLACE);
        due("j MAX", x.shift(0, 0, 0, MAX, 1), PLACE);
        due("all MAX", x.shift(0, MAX, 0, MAX, MAX), PLACE);
        due("i MAX and n 0", x.shift(0, MAX, 0, 0, 0), PLACE);
        isRow(x, 0, 1, 2, 3, 4);
    }

    @Says("n items of a TAPE from i on come to another one (or the same) from j on")
    static void p35_shift_ofNoItems() {
        BakedBefore x = row(BYTES, 1, 2);
        x.tape(1, BYTES, 0);
        due("from its start", x.shift(0, 0, 1, 0, 0), 0);
        due("from its end", x.shift(0, 2, 1, 0, 0), 0);
        due("to its end", x.shift(1, 0, 0, 2, 0), 0);
        due("from behind its end", x.shift(0, 3, 1, 0, 0), PLACE);
        due("to behind its end", x.shift(0, 0, 1, 1, 0), PLACE);
        isRow(x, 0, 1, 2);
    }

    @Says({"or the same", "as they all were before: n"})
    static void p35_shift_inTheSameAsTheyAllWereBefore() {
        BakedBefore x = row(INTS, 1, 2, 3, 4, 5);
        due("upward", x.shift(0, 0, 0, 1, 4), 4);
        isRow(x, 0, 1, 1, 2, 3, 4);
        x = row(INTS, 1, 2, 3, 4, 5);
        due("downward", x.shift(0, 1, 0, 0, 4), 4);
        isRow(x, 0, 2, 3, 4, 5, 5);
        due("to where they are", x.shift(0, 0, 0, 0, 5), 5);
        isRow(x, 0, 2, 3, 4, 5, 5);
    }

    @Says("n items of a TAPE from i on come to another one (or the same) from j on")
    static void p35_shift_allSixtyOfALongestRow() {
        BakedBefore x = row(LONGS, new long[60]);
        x.item(0, 0, Long.MIN_VALUE);
        x.item(0, 59, Long.MAX_VALUE);
        x.tape(5, LONGS, 60);
        due("all", x.shift(0, 0, 5, 0, 60), 60);
        due("the first", x.read(5, 0), Long.MIN_VALUE);
        due("the last", x.read(5, 59), Long.MAX_VALUE);
        due("61", x.shift(0, 0, 5, 0, 61), PLACE);
    }

    @Says("the first that a call's words name")
    static void p35_shift_noneAheadOfNothingAheadOfCastAheadOfPlace() {
        BakedBefore x = row(BYTES, 1);
        x.tape(1, INTS, 1);
        due("all", x.shift(6, -1, 2, -1, -1), NONE);
        due("the other", x.shift(2, -1, 6, -1, -1), NONE);
        due("nothing and place", x.shift(0, -1, 2, 0, 1), NOTHING);
        due("nothing and place", x.shift(2, 0, 0, 0, -1), NOTHING);
        due("sorts and place", x.shift(0, 0, 1, 0, 2), CAST);
        due("sorts and n", x.shift(0, 0, 1, 0, -1), CAST);
    }
}
