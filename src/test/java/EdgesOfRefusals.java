import java.util.ArrayList;
import java.util.List;

/** For each promise: what is answered by a refusal changes nothing, and what is asked changes nothing. */
final class EdgesOfRefusals extends Bench {
    private static final String REFUSED = "What is answered so changes nothing";
    private static final String ASKED = "what is asked changes nothing";

    private interface Call {
        long on(BakedBefore x);
    }

    /** An object in which there is something of everything, and where to change anything would be seen. */
    private static BakedBefore rich() {
        BakedBefore x = new BakedBefore();
        x.loaf(SHY, 3);
        x.loaf(POISONED, 4);
        x.set(0, 1, 0, 33);
        x.set(1, 2, 1, 66);
        kiln(x, "take 60 t<2;more 3 l=0;fee 4 t=99;cold 30");
        x.oven(0, 70);
        x.oven(2, 21);
        x.cold();
        x.book(0, true);
        x.book(-2, false);
        x.image();
        x.oven(0, 500);
        x.oven(3, 40);
        for (int tape = 0; tape < 5; tape++) {
            x.tape(tape, tape, 2);
            x.item(tape, 1, 1);
        }
        x.act(0, 2, 5);
        feed(x, "cold 8");
        return x;
    }

    /** All that can be seen without a change. */
    private static List<Long> seen(BakedBefore x) {
        List<Long> all = new ArrayList<>();
        for (int what = 0; what < 5; what++) {
            all.add((long) x.count(what));
        }
        for (int what = 0; what < 6; what++) {
            all.add((long) x.told(what));
        }
        for (int loaf = 0; loaf < x.count(0); loaf++) {
            for (int what = 0; what < 44; what++) {
                if (what < 4 || what >= 10 && what % 10 < 4) {
                    all.add((long) x.of(loaf, what));
                }
            }
        }
        for (int i = 0; i < 13; i++) {
            all.add((long) x.trace(i));
        }
        for (int tape = 0; tape < 6; tape++) {
            all.add((long) x.judge(tape, 0));
            for (int i = 0; i < 3; i++) {
                all.add(x.read(tape, i));
            }
        }
        all.add((long) x.looked());
        return all;
    }

    /** The call answers so and nothing changes, of what can be seen and of what can only be tried. */
    private static void changesNothing(String call, Call what, long want) {
        BakedBefore x = rich();
        List<Long> before = seen(x);
        due(call, what.on(x), want);
        check.holds(title + ": " + call + " changes nothing", seen(x).equals(before));
        due("THE TEXT behind " + call, x.kiln(), 1);
        due("cold by THE TEXT behind " + call, x.told(5), 8);
        due("undo() behind " + call, x.undo(), 2);
        due("THE OVEN of the image behind " + call, x.told(0), 21);
        due("cold of the image behind " + call, x.told(5), 30);
    }

    private static void changesNothing(BakedBefore x, String call, Call what, long want) {
        List<Long> before = seen(x);
        due(call, what.on(x), want);
        check.holds(title + ": " + call + " changes nothing", seen(x).equals(before));
    }

    // ---- what is refused

    @Says(REFUSED)
    static void p02_loaf_refusedChangesNothing() {
        changesNothing("loaf(7, 0)", x -> x.loaf(7, 0), NONE);
        changesNothing("loaf(-1, 0)", x -> x.loaf(-1, 0), NONE);
        changesNothing("loaf(0, 10)", x -> x.loaf(0, 10), BAD);
        changesNothing("loaf(0, -1)", x -> x.loaf(0, -1), BAD);
        BakedBefore six = with(3, LOAF, CLEAN, GREEDY, HOLY, RYE, POISONED);
        changesNothing(six, "loaf(6, 9)", x -> x.loaf(6, 9), FULL);
    }

    @Says(REFUSED)
    static void p03_set_refusedChangesNothing() {
        changesNothing("set(2, 0, 0, 1)", x -> x.set(2, 0, 0, 1), NONE);
        changesNothing("set(0, 4, 0, 1)", x -> x.set(0, 4, 0, 1), NONE);
        changesNothing("set(0, 0, 2, 1)", x -> x.set(0, 0, 2, 1), NONE);
        changesNothing("set(0, 0, 0, 100)", x -> x.set(0, 0, 0, 100), BAD);
        changesNothing("set(0, 0, 1, -1)", x -> x.set(0, 0, 1, -1), BAD);
        BakedBefore one = loaves(1);
        one.set(1, 2, 0, 50);
        one.loaf(LOAF, 0);
        due("a LOAF that came later GIVES", one.of(1, 12), 0);
    }

    @Says(REFUSED)
    static void p05_oven_refusedChangesNothing() {
        changesNothing("oven(4, 1)", x -> x.oven(4, 1), NONE);
        changesNothing("oven(-1, 1)", x -> x.oven(-1, 1), NONE);
        changesNothing("oven(0, 10000)", x -> x.oven(0, 10000), BAD);
        changesNothing("oven(0, -1)", x -> x.oven(0, -1), BAD);
    }

    @Says(REFUSED)
    static void p06_feed_refusedChangesNothing() {
        changesNothing("feed(128)", x -> x.feed(128), BAD);
        changesNothing("feed(-1)", x -> x.feed(-1), BAD);
        BakedBefore full = loaves(1);
        feed(full, "x".repeat(100));
        changesNothing(full, "feed('x')", x -> x.feed('x'), FULL);
    }

    @Says({REFUSED, "-10 less the FAULT (the one that held holds)"})
    static void p07_kiln_refusedChangesNothing() {
        BakedBefore x = rich();
        x.kiln();
        List<Long> before = seen(x);
        due("a FAULT", kiln(x, "take 9 t<4;more 9 t<4;fee 9 t=99;cold 9;"), -50);
        check.holds(title + ": a FAULT changes nothing", seen(x).equals(before));
        BakedBefore six = loaves(1);
        for (int i = 0; i < 6; i++) {
            kiln(six, "cold " + i);
        }
        feed(six, "cold 9");
        changesNothing(six, "kiln()", y -> y.kiln(), FULL);
    }

    @Says(REFUSED)
    static void p09_bake_refusedChangesNothing() {
        changesNothing("bake(2)", x -> x.bake(2), NONE);
        changesNothing("bake(-1)", x -> x.bake(-1), NONE);
    }

    @Says(REFUSED)
    static void p11_would_refusedChangesNothing() {
        changesNothing("would(2, 0, 0)", x -> x.would(2, 0, 0), NONE);
        changesNothing("would(0, 2, 0)", x -> x.would(0, 2, 0), NONE);
        changesNothing("would(0, 1, 5)", x -> x.would(0, 1, 5), NONE);
        changesNothing("would(0, 0, 0)", x -> x.would(0, 0, 0), BAD);
    }

    @Says(REFUSED)
    static void p12_order_refusedChangesNothing() {
        changesNothing("order(3, 6)", x -> x.order(3, 6), NONE);
        changesNothing("order(4, 0)", x -> x.order(4, 0), BAD);
    }

    @Says(REFUSED)
    static void p13_colds_refusedChangesNothing() {
        changesNothing("colds(3, 6)", x -> x.colds(3, 6), NONE);
        changesNothing("colds(4, 0)", x -> x.colds(4, 0), BAD);
    }

    @Says(REFUSED)
    static void p14_place_refusedChangesNothing() {
        changesNothing("place(2, 0)", x -> x.place(2, 0), NONE);
        changesNothing("place(0, 2)", x -> x.place(0, 2), NONE);
    }

    @Says(REFUSED)
    static void p15_guilty_refusedChangesNothing() {
        changesNothing("guilty(2)", x -> x.guilty(2), NONE);
    }

    @Says(REFUSED)
    static void p16_two_refusedChangesNothing() {
        changesNothing("two(2)", x -> x.two(2), NONE);
    }

    @Says(REFUSED)
    static void p17_has_refusedChangesNothing() {
        changesNothing("has(2)", x -> x.has(2), -100001);
    }

    @Says(REFUSED)
    static void p18_swaps_refusedChangesNothing() {
        changesNothing("swaps(1)", x -> x.swaps(1), NONE);
    }

    @Says(REFUSED)
    static void p19_span_refusedChangesNothing() {
        changesNothing("span(2, 0, 0, 0)", x -> x.span(2, 0, 0, 0), NONE);
        changesNothing("span(0, 0, 10000, 0)", x -> x.span(0, 0, 10000, 0), BAD);
    }

    @Says(REFUSED)
    static void p20_year_refusedChangesNothing() {
        changesNothing("year(60, 2, 5)", x -> x.year(60, 2, 5), -100001);
        changesNothing("year(61, 2, 0)", x -> x.year(61, 2, 0), -100002);
        changesNothing(new BakedBefore(), "year(60, 2, 0)", x -> x.year(60, 2, 0), -100003);
    }

    @Says(REFUSED)
    static void p21_odds_refusedChangesNothing() {
        changesNothing("odds(2, 0)", x -> x.odds(2, 0), NO);
        changesNothing("odds(0, 2)", x -> x.odds(0, 2), NO);
    }

    @Says(REFUSED)
    static void p22_mean_refusedChangesNothing() {
        changesNothing("mean(4, 0)", x -> x.mean(4, 0), NO);
        changesNothing("mean(0, 2)", x -> x.mean(0, 2), NO);
    }

    @Says(REFUSED)
    static void p23_book_refusedChangesNothing() {
        changesNothing("book(2, true)", x -> x.book(2, true), NONE);
        changesNothing("book(-3, true)", x -> x.book(-3, true), NONE);
        BakedBefore full = loaves(1);
        for (int row = 0; row < 12; row++) {
            full.book(0, false);
        }
        changesNothing(full, "book(0, true)", x -> x.book(0, true), FULL);
    }

    @Says(REFUSED)
    static void p25_judge_refusedChangesNothing() {
        changesNothing("judge(6, 0)", x -> x.judge(6, 0), NONE);
        changesNothing("judge(2, 0)", x -> x.judge(2, 0), CAST);
    }

    @Says(REFUSED)
    static void p27_undo_refusedChangesNothing() {
        BakedBefore x = with(4, SHY, RYE);
        x.oven(0, 9);
        x.book(1, true);
        x.cold();
        changesNothing(x, "undo()", y -> y.undo(), STATE);
    }

    @Says(REFUSED)
    static void p28_act_refusedChangesNothingButTheTrace() {
        BakedBefore x = rich();
        x.act(9, 9, 9);
        changesNothing(x, "act(2, 0, 5)", y -> y.act(2, 0, 5), 0);
        changesNothing(x, "act(0, 3, 5)", y -> y.act(0, 3, 5), 0);
    }

    @Says(REFUSED)
    static void p30_taken_refusedChangesNothing() {
        changesNothing("taken(0, 7)", x -> x.taken(0, 7), BAD);
        changesNothing("taken(2, 0)", x -> x.taken(2, 0), NOTHING);
        changesNothing("taken(0, 1)", x -> x.taken(0, 1), CAST);
    }

    @Says(REFUSED)
    static void p32_tape_refusedChangesNothing() {
        changesNothing("tape(6, 0, 1)", x -> x.tape(6, 0, 1), NONE);
        changesNothing("tape(0, 5, 1)", x -> x.tape(0, 5, 1), BAD);
        changesNothing("tape(1, -2, 1)", x -> x.tape(1, -2, 1), BAD);
        changesNothing("tape(2, 0, 61)", x -> x.tape(2, 0, 61), BAD);
        changesNothing("tape(3, 0, -1)", x -> x.tape(3, 0, -1), SIZE);
        changesNothing("tape(5, 0, -1)", x -> x.tape(5, 0, -1), SIZE);
    }

    @Says(REFUSED)
    static void p33_item_refusedChangesNothing() {
        changesNothing("item(6, 0, 5)", x -> x.item(6, 0, 5), NONE);
        changesNothing("item(5, 0, 5)", x -> x.item(5, 0, 5), NOTHING);
        changesNothing("item(0, 2, 5)", x -> x.item(0, 2, 5), PLACE);
        changesNothing("item(0, -1, 5)", x -> x.item(0, -1, 5), PLACE);
        BakedBefore x = new BakedBefore();
        x.tape(0, BYTES, 1);
        x.item(0, 1, 7);
        x.item(1, 0, 7);
        x.tape(1, BYTES, 2);
        due("a place that came later", x.read(1, 0), 0);
    }

    @Says(REFUSED)
    static void p35_shift_refusedChangesNothing() {
        changesNothing("shift(0, 1, 6, 0, 1)", x -> x.shift(0, 1, 6, 0, 1), NONE);
        changesNothing("shift(0, 1, 5, 0, 1)", x -> x.shift(0, 1, 5, 0, 1), NOTHING);
        changesNothing("shift(0, 1, 1, 0, 1)", x -> x.shift(0, 1, 1, 0, 1), CAST);
        changesNothing("shift(0, 1, 0, 0, 2)", x -> x.shift(0, 1, 0, 0, 2), PLACE);
        changesNothing("shift(0, 0, 0, 1, 2)", x -> x.shift(0, 0, 0, 1, 2), PLACE);
        changesNothing("shift(0, 1, 0, 0, -1)", x -> x.shift(0, 1, 0, 0, -1), PLACE);
    }

    // ---- what is asked

    @Says(ASKED)
    static void p04_of_askedChangesNothing() {
        changesNothing("of(0, 3)", x -> x.of(0, 3), 0);
        changesNothing("of(0, 30)", x -> x.of(0, 30), 4);
        changesNothing("of(0, 41)", x -> x.of(0, 41), 18);
        changesNothing("of(0, 4)", x -> x.of(0, 4), NONE);
    }

    @Says(ASKED)
    static void p08_told_askedChangesNothing() {
        changesNothing("told(0)", x -> x.told(0), 500);
        changesNothing("told(6)", x -> x.told(6), NONE);
    }

    @Says({ASKED, "and changes nothing"})
    static void p11_would_askedChangesNothing() {
        changesNothing("would(0, 1, 4)", x -> x.would(0, 1, 4), 0);
        changesNothing("would(0, 1, 0)", x -> x.would(0, 1, 0), 1);
    }

    @Says({ASKED, "and changes nothing"})
    static void p12_order_askedChangesNothing() {
        changesNothing("order(3, -1)", x -> x.order(3, -1), 1);
        changesNothing("order(3, 5)", x -> x.order(3, 5), ABSENT);
    }

    @Says({ASKED, "and changes nothing"})
    static void p13_colds_askedChangesNothing() {
        changesNothing("colds(3, 5)", x -> x.colds(3, 5), ABSENT);
        changesNothing("colds(0, -1)", x -> x.colds(0, -1), 0);
    }

    @Says({ASKED, "and changes nothing"})
    static void p14_place_askedChangesNothing() {
        changesNothing("place(0, 0)", x -> x.place(0, 0), 1);
    }

    @Says({ASKED, "and changes nothing"})
    static void p15_guilty_askedChangesNothing() {
        changesNothing("guilty(1)", x -> x.guilty(1), 0);
    }

    @Says({ASKED, "and changes nothing"})
    static void p16_two_askedChangesNothing() {
        changesNothing("two(0)", x -> x.two(0), 1);
    }

    @Says({ASKED, "and changes nothing"})
    static void p17_has_askedChangesNothing() {
        changesNothing("has(0)", x -> x.has(0), -5);
    }

    @Says({ASKED, "and changes nothing"})
    static void p18_swaps_askedChangesNothing() {
        changesNothing("swaps(0)", x -> x.swaps(0), 1);
    }

    @Says({ASKED, "and changes nothing"})
    static void p19_span_askedChangesNothing() {
        changesNothing("span(1, 0, 9999, 1)", x -> x.span(1, 0, 9999, 1), 9999);
    }

    @Says({ASKED, "and changes nothing"})
    static void p20_year_askedChangesNothing() {
        changesNothing("year(0, 2, 0)", x -> x.year(0, 2, 0), 500);
        changesNothing("year(60, 2, 4)", x -> x.year(60, 2, 4) >= 0 ? 1 : 0, 1);
    }

    @Says({ASKED, "and changes nothing"})
    static void p21_odds_askedChangesNothing() {
        changesNothing("odds(0, 1)", x -> x.odds(0, 1), 1);
    }

    @Says({ASKED, "and changes nothing"})
    static void p22_mean_askedChangesNothing() {
        changesNothing("mean(1, 1)", x -> x.mean(1, 1), 1);
    }

    @Says({ASKED, "and changes nothing"})
    static void p24_looked_askedChangesNothing() {
        changesNothing("looked()", x -> x.looked(), 0);
    }

    @Says(ASKED)
    static void p25_judge_askedChangesNothing() {
        changesNothing("judge(1, 0)", x -> x.judge(1, 0), 0);
        changesNothing("judge(5, 0)", x -> x.judge(5, 0), 100);
    }

    @Says(ASKED)
    static void p29_trace_askedChangesNothing() {
        changesNothing("trace(0)", x -> x.trace(0), 40);
        changesNothing("trace(12)", x -> x.trace(12), NONE);
    }

    @Says(ASKED)
    static void p30_taken_askedChangesNothing() {
        changesNothing("taken(0, 3)", x -> x.taken(0, 3), SHY);
    }

    @Says(ASKED)
    static void p31_count_askedChangesNothing() {
        changesNothing("count(0)", x -> x.count(0), 2);
        changesNothing("count(5)", x -> x.count(5), BAD);
    }

    @Says(ASKED)
    static void p34_read_askedChangesNothing() {
        changesNothing("read(0, 1)", x -> x.read(0, 1), 1);
        changesNothing("read(5, 0)", x -> x.read(5, 0), NO);
    }
}
