/** The boundary cases of promises 6 and 7: THE TEXT, the grammar, the FAULT, what CLAUSES tell. */
final class EdgesOfKilns extends Bench {
    private static final String TEN = "cold 1;cold 1;cold 1;cold 1;cold 1;cold 1;cold 1;cold 1;cold 1;cold 1";

    /** The TEXT is none, with the FAULT at the place of the ^ below it. */
    private static void fault(String text, String below) {
        due("the FAULT of '" + text + "'", kiln(new BakedBefore(), text), -10 - below.indexOf('^'));
    }

    /** The TEXT is none, as it ends too early. */
    private static void early(String text) {
        due("the FAULT of '" + text + "'", kiln(new BakedBefore(), text), -10 - text.length());
    }

    private static void fits(String text) {
        due("'" + text + "'", kiln(new BakedBefore(), text), 0);
    }

    /** A TEXT of just so many bytes that is a KILN: by | as many tests as it needs. */
    private static String textOf(int bytes) {
        StringBuilder text = new StringBuilder("take 1 t<1");
        while (bytes - text.length() > 7) {
            text.append("|t<1");
        }
        String[] last = {"", "", "", "", "|t<1", "|t<10", "|!t<10", "|!!t<10"};
        return text.append(last[bytes - text.length()]).toString();
    }

    // ---- feed

    @Says("A sign (0 .. 127) comes behind THE TEXT's: how many it has")
    static void p06_feed_signZeroAndSign127() {
        BakedBefore x = new BakedBefore();
        due("feed(0)", x.feed(0), 1);
        due("feed(127)", x.feed(127), 2);
    }

    @Says("how many it has. BAD; FULL.")
    static void p06_feed_signBelowZeroIsBad() {
        due("feed(-1)", new BakedBefore().feed(-1), BAD);
        due("feed(MIN)", new BakedBefore().feed(MIN), BAD);
    }

    @Says("how many it has. BAD; FULL.")
    static void p06_feed_sign128IsBad() {
        due("feed(128)", new BakedBefore().feed(128), BAD);
        due("feed(256 + 'c')", new BakedBefore().feed(256 + 'c'), BAD);
        due("feed(MAX)", new BakedBefore().feed(MAX), BAD);
    }

    @Says("THE TEXT (bytes, 100 at most)")
    static void p06_feed_theHundredthComes() {
        BakedBefore x = new BakedBefore();
        for (int i = 1; i <= 100; i++) {
            due("sign " + i, x.feed('a'), i);
        }
    }

    @Says({"THE TEXT (bytes, 100 at most)", "how many it has. BAD; FULL."})
    static void p06_feed_theHundredAndFirstIsFull() {
        BakedBefore x = new BakedBefore();
        feed(x, textOf(100));
        due("the 101st", x.feed(';'), FULL);
        due("the 102nd", x.feed(0), FULL);
        due("count(3)", x.count(3), 100);
        due("none of them came", x.kiln(), 0);
    }

    @Says("the first that a call's words name")
    static void p06_feed_badAheadOfFull() {
        BakedBefore x = new BakedBefore();
        feed(x, textOf(100));
        due("the 101st, 128", x.feed(128), BAD);
        due("the 101st, -1", x.feed(-1), BAD);
    }

    @Says("comes behind THE TEXT's: how many it has")
    static void p06_feed_anewBehindAKilnAndAFault() {
        BakedBefore x = new BakedBefore();
        kiln(x, "cold 9");
        due("the first behind a KILN", x.feed('c'), 1);
        x.kiln();
        due("the first behind a FAULT", x.feed('c'), 1);
    }

    // ---- CLAUSES, 1 to 10

    @Says("CLAUSES, 1 to 10, with ; between")
    static void p07_grammar_noClauseIsNone() {
        early("");
    }

    @Says("CLAUSES, 1 to 10, with ; between")
    static void p07_grammar_oneClause() {
        fits("take 1 t<1");
        fits("more 1 t<1");
        fits("cold 1");
        fits("fee 1 t<1");
    }

    @Says("CLAUSES, 1 to 10, with ; between")
    static void p07_grammar_tenClauses() {
        fits(TEN);
        fits("fee 1 t=1;fee 1 t=1;fee 1 t=1;fee 1 t=1;fee 1 t=1;fee 1 t=1;fee 1 t=1;fee 1 t=1;fee 1 t=1;cold 9");
    }

    @Says("CLAUSES, 1 to 10, with ; between")
    static void p07_grammar_theEleventhIsNone() {
        BakedBefore x = new BakedBefore();
        due("by the ; behind the tenth", kiln(x, TEN + ";cold 1"), -10 - TEN.length());
        due("and by that alone", kiln(x, TEN + ";"), -10 - TEN.length());
        due("nine and one too early", kiln(x, TEN.substring(0, TEN.length() - 6)), -10 - TEN.length() + 6);
    }

    @Says("CLAUSES, 1 to 10, with ; between")
    static void p07_grammar_semicolonsStandBetweenAlone() {
        fault(";cold 1", "^");
        early("cold 1;");
        fault("cold 1;;cold 1",
              "       ^");
        fault("cold 1 ;cold 1",
              "      ^");
        fault("cold 1; cold 1",
              "       ^");
        fault("cold 1,cold 1",
              "      ^");
        fault("take 1 t<1 ;cold 1",
              "          ^");
    }

    // ---- words, blanks, n

    @Says("take n E; more n E; cold n; fee n E")
    static void p07_grammar_noOtherWord() {
        fault("x", "^");
        fault("Take 1 t<1", "^");
        fault(" take 1 t<1", "^");
        fault("tame 1 t<1", "  ^");
        fault("mare 1 t<1", " ^");
        fault("cols 1", "   ^");
        fault("fed 1 t<1", "  ^");
        fault("fees 1 t<1", "   ^");
        fault("takes 1 t<1", "    ^");
        fault("t 1 t<1", " ^");
        fault("tak 1 t<1", "   ^");
        fault("more1 t<1", "    ^");
        fault("col 1", "   ^");
        fault("fe 1 t<1", "  ^");
        early("t");
        early("mor");
        early("col");
        early("fe");
    }

    @Says("take n E; more n E; cold n; fee n E")
    static void p07_grammar_coldHasNoTestAndTheOthersHave() {
        fault("cold 1 t<1", "      ^");
        early("take 1");
        early("more 1");
        early("fee 1");
        fault("take 1;cold 1", "      ^");
        fault("more 1;cold 1", "      ^");
        fault("fee 1;cold 1", "     ^");
    }

    @Says("one blank ahead of each part behind the word")
    static void p07_grammar_aBlankIsOne() {
        early("take");
        early("cold");
        early("fee");
        early("take ");
        early("cold ");
        early("take 1 ");
        fault("take1 t<1", "    ^");
        fault("cold1", "    ^");
        fault("take  1 t<1", "     ^");
        fault("take 1  t<1", "       ^");
        fault("take 1t<1", "      ^");
        fault("cold  1", "     ^");
        fault("cold 1 ", "      ^");
        fault("take 1 t<1 ", "          ^");
        fault("take\t1 t<1", "    ^");
    }

    @Says("n 1 or 2 digits")
    static void p07_grammar_nOfOneOrTwoDigits() {
        fits("cold 0");
        fits("cold 00");
        fits("cold 09");
        fits("cold 99");
        fits("take 0 t<1");
        fits("fee 99 t<1");
        BakedBefore x = new BakedBefore();
        kiln(x, "cold 07");
        due("a digit 0 ahead", x.told(5), 7);
        kiln(x, "cold 99");
        due("the greatest", x.told(5), 99);
        kiln(x, "cold 00");
        due("the least", x.told(5), 0);
    }

    @Says("n 1 or 2 digits")
    static void p07_grammar_nOfNoneOrThreeDigitsIsNone() {
        fault("cold 100", "       ^");
        fault("cold 000", "       ^");
        fault("take 100 t<1", "       ^");
        fault("cold x", "     ^");
        fault("cold -1", "     ^");
        fault("cold /", "     ^");
        fault("cold :", "     ^");
        fault("take  t<1", "     ^");
    }

    // ---- E, T, F, a TEST

    @Says("a TEST: a letter, < or = or >, a number (1 or 2 digits)")
    static void p07_grammar_testHasALetterASignANumber() {
        String letters = "lktvho";
        for (int i = 0; i < letters.length(); i++) {
            fits("take 1 " + letters.charAt(i) + "<0");
            fits("take 1 " + letters.charAt(i) + "=99");
            fits("take 1 " + letters.charAt(i) + ">09");
        }
        fault("take 1 x<1", "       ^");
        fault("take 1 L<1", "       ^");
        fault("take 1 1<l", "       ^");
        fault("take 1 l;1", "        ^");
        fault("take 1 l?1", "        ^");
        fault("take 1 l!1", "        ^");
        fault("take 1 l <1", "        ^");
        fault("take 1 l<=1", "         ^");
        fault("take 1 l<k", "         ^");
        fault("take 1 l<100", "           ^");
        early("take 1 l");
        early("take 1 l<");
    }

    @Says("E: T or T|E. T: F or F&T. F: !F, (E), or a TEST")
    static void p07_grammar_signsStandBetweenTests() {
        fits("take 1 l=1|l=2&l=3|l=4&l=5");
        fits("take 1 !l=1&!(l=2|l=3)");
        early("take 1 l=1|");
        early("take 1 l=1&");
        early("take 1 !");
        early("take 1 (");
        early("take 1 (l=1");
        early("take 1 (l=1|");
        early("take 1 (l=1&");
        fault("take 1 |l=1", "       ^");
        fault("take 1 &l=1", "       ^");
        fault("take 1 l=1||l=1", "           ^");
        fault("take 1 l=1&&l=1", "           ^");
        fault("take 1 l=1|&l=1", "           ^");
        fault("take 1 l=1!l=1", "          ^");
        fault("take 1 l=1(l=1)", "          ^");
        fault("take 1 ()", "        ^");
        fault("take 1 (l=1))", "            ^");
        fault("take 1 l=1)", "          ^");
        fault("take 1 (l=1;cold 1", "           ^");
        fault("take 1 (!)", "         ^");
    }

    @Says("A ( or ! within 4 others is none")
    static void p07_grammar_fourWithinOneAnother() {
        fits("take 1 ((((t=1))))");
        fits("take 1 !!!!t=1");
        fits("take 1 (!(!t=1))");
        fits("take 1 !(!(t=1))");
        fits("take 1 (((!t=1)&!t=2)|(!t=3))&!!!!t=4");
    }

    @Says("A ( or ! within 4 others is none")
    static void p07_grammar_aFifthWithinFourIsNone() {
        fault("take 1 (((((t=1)))))", "           ^");
        fault("take 1 !!!!!t=1", "           ^");
        fault("take 1 ((((!t=1))))", "           ^");
        fault("take 1 !!!!(t=1)", "           ^");
        fault("take 1 (!(!(t=1)))", "           ^");
        fault("take 1 ((((t=1&!t=2))))", "               ^");
        fault("take 1 ((((t=1|(t=2)))))", "               ^");
        fault("take 1 ((((t=1)))|!(!(!(t=2))))", "                     ^");
    }

    @Says("A ( or ! within 4 others is none")
    static void p07_grammar_besideOneAnotherTheyAreNotWithin() {
        fits("take 1 (t=1)&(t=1)&(t=1)&(t=1)&(t=1)&(t=1)");
        fits("take 1 !t=1|!t=1|!t=1|!t=1|!t=1|!t=1");
        fits("take 1 ((((t=1))))&((((t=1))))|!!!!t=1;fee 1 ((((t=1))))");
        fits("take 1 (((!t=1|!t=1)&!t=1)&!t=1)&!(!(t=1))");
    }

    // ---- the FAULT

    @Says("The FAULT: the place of the first byte with which none begins so")
    static void p07_fault_isTheFirstByteThatCannotStand() {
        fault("~", "^");
        fault("take 1 t<1;more 2 q<1;more q", "                  ^");
        fault("cold 1\u0000", "      ^");
        fault("cold 12\u007f", "       ^");
        due("a byte 0 at first", zeroAtFirst(), -10);
    }

    private static int zeroAtFirst() {
        BakedBefore x = new BakedBefore();
        x.feed(0);
        return x.kiln();
    }

    @Says("(the end of THE TEXT, if it ends too early)")
    static void p07_fault_isTheEndOfATextThatEndsTooEarly() {
        String whole = "take 12 !(l<3|k=4)&v>56";
        for (int n = 0; n <= whole.length(); n++) {
            boolean isOne = n == "take 12 !(l<3|k=4)".length() || n >= whole.length() - 1;
            if (isOne) {
                fits(whole.substring(0, n));
            } else {
                early(whole.substring(0, n));
            }
        }
    }

    @Says({"(the end of THE TEXT, if it ends too early)", "THE TEXT (bytes, 100 at most)"})
    static void p07_fault_atOneHundredOfAFullText() {
        BakedBefore x = new BakedBefore();
        due("bytes", textOf(97).length(), 97);
        due("100 that end too early", kiln(x, textOf(97) + "|l<"), -110);
        due("100 whose last can't stand", kiln(x, textOf(99) + ")"), -109);
    }

    @Says({"A KILN is read from THE TEXT (bytes, 100 at most)", "1 to 10"})
    static void p07_fault_noneOfAFullTextThatIsOne() {
        due("bytes", textOf(100).length(), 100);
        fits(textOf(100));
    }

    // ---- kiln()

    @Says("THE TEXT, which is empty then, is a KILN, and holds: its number")
    static void p07_kiln_numbersFromZeroToFive() {
        BakedBefore x = new BakedBefore();
        for (int i = 0; i < 6; i++) {
            due("KILN " + i, kiln(x, "cold 1" + i), i);
            due("it holds", x.told(5), 10 + i);
            due("count(1)", x.count(1), i + 1);
        }
    }

    @Says("THE TEXT, which is empty then, is a KILN")
    static void p07_kiln_theTextIsEmptyThen() {
        BakedBefore x = new BakedBefore();
        kiln(x, "cold 1");
        due("count(3) behind a KILN", x.count(3), 0);
        due("a second one of nothing", x.kiln(), -10);
        kiln(x, "cold");
        due("count(3) behind a FAULT", x.count(3), 0);
        due("anew", kiln(x, "cold 2"), 1);
    }

    @Says("FULL: there are 6 (THE TEXT stays)")
    static void p07_kiln_theSeventhIsFull() {
        BakedBefore x = six();
        feed(x, "cold 77");
        due("the seventh", x.kiln(), FULL);
        due("THE TEXT stays", x.count(3), 7);
        due("the sixth holds still", x.told(5), 15);
        due("count(1)", x.count(1), 6);
        due("THE TEXT goes on", x.feed('!'), 8);
        due("the seventh again", x.kiln(), FULL);
    }

    @Says("the first that a call's words name")
    static void p07_kiln_fullAheadOfTheFault() {
        BakedBefore x = six();
        due("of an empty TEXT", x.kiln(), FULL);
        feed(x, "colt");
        due("of one with a FAULT", x.kiln(), FULL);
        due("THE TEXT stays", x.count(3), 4);
    }

    private static BakedBefore six() {
        BakedBefore x = new BakedBefore();
        for (int i = 0; i < 6; i++) {
            kiln(x, "cold 1" + i);
        }
        return x;
    }

    @Says("-10 less the FAULT (the one that held holds)")
    static void p07_kiln_theOneThatHeldHoldsBehindAFault() {
        BakedBefore x = loaves(1);
        hold(x, 100);
        due("a FAULT without a KILN", kiln(x, "take 7 t<9;cold 3;"), -28);
        due("no KILN: cold", x.told(5), 50);
        due("no KILN: PART", x.of(0, 30), 50);
        due("no KILN: count(1)", x.count(1), 0);
        kiln(x, "take 9 t<9;more 8 t<9;fee 7 l=0;cold 6");
        due("a FAULT", kiln(x, "take 1 t<9;more 1 t<9;fee 1 l=0;cold 1;"), -49);
        due("cold", x.told(5), 6);
        due("PART", x.of(0, 30), 9);
        due("MORE", x.of(0, 40), 8);
        due("FEE", x.of(0, 2), 8);
        due("count(1)", x.count(1), 1);
    }

    @Says("-10 less the FAULT (the one that held holds)")
    static void p07_kiln_nothingOfAFaultStaysInTheNext() {
        BakedBefore x = loaves(1);
        hold(x, 100);
        kiln(x, "fee 9 l=0;take 7 t<9|t=9;more 8 t<9;fee 5 l=0;cold 3;take 1 t<9&");
        due("the next", kiln(x, "fee 3 l=0"), 0);
        due("FEE", x.of(0, 2), 4);
        due("PART", x.of(0, 30), 50);
        due("MORE", x.of(0, 40), 0);
        due("cold", x.told(5), 50);
    }

    @Says("THE TEXT, which is empty then, is a KILN")
    static void p07_kiln_behindFourFullTextsWithAFault() {
        BakedBefore x = loaves(1);
        for (int i = 0; i < 4; i++) {
            due("FAULT " + i, kiln(x, textOf(97) + "|l<"), -110);
        }
        kiln(x, "fee 9 l=1|l=2|l=3|l=4|l=0");
        due("all of its tests count", x.of(0, 2), 10);
    }

    @Says("The newest KILN holds (6 at most)")
    static void p07_kiln_theNewestHoldsAlone() {
        BakedBefore x = loaves(1);
        hold(x, 100);
        kiln(x, "take 9 t<9;more 8 t<9;fee 7 l=0;cold 6");
        kiln(x, "fee 1 l=0");
        due("cold", x.told(5), 50);
        due("PART", x.of(0, 30), 50);
        due("MORE", x.of(0, 40), 0);
        due("FEE", x.of(0, 2), 2);
    }

    // ---- what CLAUSES tell

    /** What a LOAF of v 4 and number l answers by a TEXT, of(l, what); THE OVEN holds 100 of each. */
    private static void tells(String text, int l, int what, int want) {
        BakedBefore x = with(4, LOAF, LOAF, LOAF);
        hold(x, 100);
        due("'" + text + "'", kiln(x, text), 0);
        due("'" + text + "' of(" + l + ", " + what + ")", x.of(l, what), want);
    }

    @Says("(50, if there are no take CLAUSES at all)")
    static void p07_part_fiftyWithoutTakeAndNoneByNoTakeThatHolds() {
        tells("cold 9", 0, 30, 50);
        tells("more 9 t<9;fee 9 t<9", 0, 30, 50);
        tells("take 9 t=1", 0, 30, 0);
        tells("take 9 t=1", 0, 31, 9);
        tells("take 0 t=0", 0, 30, 0);
    }

    @Says("the n of all take whose E holds, together")
    static void p07_part_allThatHoldTogether() {
        tells("take 9 t=0", 0, 30, 9);
        tells("take 9 t=0;take 8 t=1;take 7 t<1", 0, 30, 16);
        tells("take 99 t=0", 0, 30, 99);
        tells("take 99 t=0;take 1 t=0", 0, 30, 100);
        tells("take 99 t=0;take 2 t=0", 0, 30, 100);
    }

    @Says("MORE: the n of all more whose E holds, together")
    static void p07_more_noneWithoutAndAllTogether() {
        tells("take 9 t=0", 0, 40, 0);
        tells("more 9 t=1", 0, 40, 0);
        tells("more 9 t=0;more 99 t<3;more 1 t>0", 0, 40, 108);
    }

    @Says("FEE of a LOAF: 1, and the n of all fee whose E holds, together")
    static void p07_fee_oneWithoutAndOneAndAllTogether() {
        tells("take 9 l=0", 0, 2, 1);
        tells("fee 9 l=1", 0, 2, 1);
        tells("fee 0 l=0", 0, 2, 1);
        tells("fee 9 l=0;fee 99 l<1;fee 1 l>0", 0, 2, 109);
    }

    @Says({"CLAUSES, 1 to 10", "FEE of a LOAF: 1, and the n of all fee whose E holds, together"})
    static void p07_fee_allOfTenClauses() {
        tells("fee 1 l=0;fee 2 l=0;fee 3 l=0;fee 4 l=0;fee 5 l=0;fee 6 l=0;fee 7 l=0;fee 8 l=0;fee 9 l=0;fee 9 l=0",
            0, 2, 55);
        tells("fee 1 l=0;fee 2 l=0;fee 3 l=0;fee 4 l=0;fee 5 l=0;fee 6 l=0;fee 7 l=0;fee 8 l=0;fee 9 l=0;fee 9 l=1",
            0, 2, 46);
    }

    @Says("cold (50 without): the last one's n")
    static void p07_cold_fiftyWithoutAndTheLastOfSeveral() {
        BakedBefore x = new BakedBefore();
        kiln(x, "take 9 t=0");
        due("without", x.told(5), 50);
        kiln(x, "cold 9;take 1 t=0;cold 8");
        due("of two the last", x.told(5), 8);
        kiln(x, "cold 9;cold 0;fee 1 t=0");
        due("also 0", x.told(5), 0);
    }

    @Says("a letter, < or = or >, a number")
    static void p07_test_lessEqualGreaterAtTheNumber() {
        tells("fee 1 v<3;fee 2 v<4;fee 4 v<5", 0, 2, 5);
        tells("fee 9 l<0", 0, 2, 1);
        tells("fee 9 !l<0", 0, 2, 10);
        tells("fee 9 l>99", 0, 2, 1);
        tells("fee 1 v=3;fee 2 v=4;fee 4 v=5", 0, 2, 3);
        tells("fee 1 v>3;fee 2 v>4;fee 4 v>5", 0, 2, 2);
    }

    @Says("l the LOAF's number, k its KIND, t the TASTE, v its number v")
    static void p07_test_lettersAtTheirEnds() {
        BakedBefore x = new BakedBefore();
        for (int i = 0; i < 6; i++) {
            x.loaf(i == 0 ? LOAF : SHY, i == 0 ? 0 : 9);
        }
        kiln(x, "fee 1 l=0;fee 2 l=5;fee 4 k=0;fee 8 k=6;fee 16 v=0;fee 32 v=9");
        due("the first", x.of(0, 2), 1 + 1 + 4 + 16);
        due("the last", x.of(5, 2), 1 + 2 + 8 + 32);
        kiln(x, "more 2 t=0;more 4 t=3;more 8 t>3");
        due("TASTE 0", x.of(0, 40), 2);
        due("TASTE 1", x.of(0, 41), 0);
        due("TASTE 3", x.of(0, 43), 4);
    }

    @Says("h HOUR modulo 60")
    static void p07_test_hourWrapsAtSixty() {
        BakedBefore x = loaves(1);
        kiln(x, "fee 1 h=0;fee 2 h=1;fee 4 h=59;fee 8 h>59;fee 16 h=60");
        int[] want = new int[122];
        java.util.Arrays.fill(want, 1);
        want[0] = want[60] = want[120] = 2;
        want[1] = want[61] = want[121] = 3;
        want[59] = want[119] = 5;
        for (int hour = 0; hour < want.length; hour++) {
            due("at HOUR " + hour, x.of(0, 2), want[hour]);
            x.cold();
        }
    }

    @Says("o how much THE OVEN holds of the TASTE by 10 (cut)")
    static void p07_test_ovenByTenIsCut() {
        BakedBefore x = loaves(1);
        kiln(x, "more 1 o=0;more 2 o=1;more 4 o=98;more 8 o=99;more 16 o>99");
        int[] held = {0, 9, 10, 19, 20, 979, 980, 989, 990, 999, 1000, 9999};
        int[] want = {1, 1, 2, 2, 0, 0, 4, 4, 8, 8, 16, 16};
        for (int i = 0; i < held.length; i++) {
            for (int t = 0; t < 4; t++) {
                x.oven(t, held[i]);
                due("of " + held[i], x.of(0, 40 + t), want[i]);
            }
        }
    }

    @Says("(of fee: t, o 99)")
    static void p07_test_ofFeeTasteAndOvenAre99() {
        tells("fee 1 t=99;fee 2 o=99", 0, 2, 4);
        tells("fee 1 t<99;fee 2 o<99;fee 4 t>99;fee 8 o>99;fee 16 o=10;fee 32 t=0", 0, 2, 1);
        BakedBefore x = loaves(1);
        kiln(x, "fee 1 o=99;take 9 t<4");
        int[] held = {0, 990, 9999};
        for (int n : held) {
            hold(x, n);
            x.of(0, 30);
            due("whatever THE OVEN holds: " + n, x.of(0, 2), 2);
        }
    }

    @Says("E: T or T|E. T: F or F&T. F: !F")
    static void p07_test_notBindsMoreThanAndMoreThanOr() {
        tells("take 9 l=0|l=1&k=5", 0, 30, 9);
        tells("take 9 (l=0|l=1)&k=5", 0, 30, 0);
        tells("take 9 k=5&l=1|l=0", 0, 30, 9);
        tells("take 9 k=5&(l=1|l=0)", 0, 30, 0);
        tells("take 9 !l=0&k=5", 0, 30, 0);
        tells("take 9 !(l=0&k=5)", 0, 30, 9);
        tells("take 9 !l=1|l=1", 1, 30, 9);
        tells("take 9 !(l=1|l=1)", 1, 30, 0);
        tells("take 9 !!!!l=0", 0, 30, 9);
        tells("take 9 !!!l=0", 0, 30, 0);
    }

    @Says("F: !F, (E), or a TEST")
    static void p07_test_bracketsAndNotsWithinOneAnother() {
        String[] holding = {"l=0", "l<1&k=0", "k=5|l<1"};
        for (String e : holding) {
            String[] same = {"(" + e + ")", "((" + e + "))", "(((" + e + ")))", "!(!(" + e + "))", "!!(" + e + ")",
                "(!!(" + e + "))"};
            String[] other = {"!(" + e + ")", "(!(" + e + "))", "!((" + e + "))", "((!(" + e + ")))", "!!!(" + e + ")"};
            for (String so : same) {
                tells("take 9 " + so, 0, 30, 9);
                tells("take 9 l=1|" + so, 0, 30, 9);
            }
            for (String not : other) {
                tells("take 9 " + not, 0, 30, 0);
                tells("take 9 l=0&" + not, 0, 30, 0);
            }
        }
    }
}
