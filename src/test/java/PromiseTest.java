/** For each promise ordinary inputs, the edges that the document names, and wrong inputs. */
public final class PromiseTest extends Bench {
    public static void main(String[] args) {
        newObject();
        loaf();
        set();
        of();
        oven();
        feedTheText();
        faults();
        kilnsThatAre();
        clauses();
        tests();
        told();
        bake();
        cold();
        would();
        order();
        colds();
        place();
        guilty();
        two();
        has();
        swaps();
        span();
        year();
        odds();
        mean();
        book();
        looked();
        judge();
        imageAndUndo();
        act();
        trace();
        taken();
        count();
        tape();
        item();
        read();
        shift();
        check.close();
    }

    private static void newObject() {
        title = "promise 1";
        BakedBefore x = new BakedBefore();
        for (int what = 0; what < 5; what++) {
            due("count(" + what + ")", x.count(what), 0);
            due("told(" + what + ")", x.told(what), 0);
        }
        due("told(5)", x.told(5), 50);
        due("of(0, 0)", x.of(0, 0), NONE);
        due("undo()", x.undo(), STATE);
        due("read(0, 0)", x.read(0, 0), NO);
        due("looked()", x.looked(), ABSENT);
        due("order(0, -1)", x.order(0, -1), 0);
        due("colds(0, -1)", x.colds(0, -1), 0);
        due("two(0)", x.two(0), 0);
        due("two(1)", x.two(1), 0);
        due("trace(0)", x.trace(0), NONE);
        due("the constant NONE", BakedBefore.NONE, -1);
        due("the constant BAD", BakedBefore.BAD, -2);
        due("the constant STATE", BakedBefore.STATE, -3);
        due("the constant FULL", BakedBefore.FULL, -4);
        due("the constant NO", BakedBefore.NO, Long.MIN_VALUE);
    }

    private static void loaf() {
        title = "promise 2";
        BakedBefore x = new BakedBefore();
        due("loaf(-1, 0)", x.loaf(-1, 0), NONE);
        due("loaf(7, 10)", x.loaf(7, 10), NONE);
        due("loaf(0, -1)", x.loaf(0, -1), BAD);
        due("loaf(6, 10)", x.loaf(6, 10), BAD);
        due("count(0)", x.count(0), 0);
        for (int i = 0; i < 6; i++) {
            due("loaf " + i, x.loaf(i + 1, 9 - i), i);
            due("its KIND", x.of(i, 0), i + 1);
            due("its v", x.of(i, 1), 9 - i);
            for (int t = 0; t < 4; t++) {
                due("it GIVES", x.of(i, 10 + t), 0);
                due("it BEARS", x.of(i, 20 + t), 9);
            }
        }
        due("a 7th loaf", x.loaf(0, 0), FULL);
        due("a 7th loaf's kind", x.loaf(7, 0), NONE);
        due("a 7th loaf's v", x.loaf(0, 10), BAD);
        due("count(0)", x.count(0), 6);
    }

    private static void set() {
        title = "promise 3";
        BakedBefore x = with(0, 0, 3);
        due("set(0, 0, 0, 99)", x.set(0, 0, 0, 99), 0);
        due("set(0, 0, 1, 0)", x.set(0, 0, 1, 0), 9);
        due("set(1, 3, 0, 7)", x.set(1, 3, 0, 7), 0);
        due("set(1, 3, 0, 8)", x.set(1, 3, 0, 8), 7);
        due("set(1, 3, 1, 99)", x.set(1, 3, 1, 99), 9);
        due("of(0, 10)", x.of(0, 10), 99);
        due("of(0, 20)", x.of(0, 20), 0);
        due("of(1, 13)", x.of(1, 13), 8);
        due("of(1, 23)", x.of(1, 23), 99);
        due("of(0, 13)", x.of(0, 13), 0);
        due("of(1, 20)", x.of(1, 20), 9);
        due("set(2, 0, 0, 0)", x.set(2, 0, 0, 0), NONE);
        due("set(-1, 0, 0, 0)", x.set(-1, 0, 0, 0), NONE);
        due("set(0, 4, 0, 0)", x.set(0, 4, 0, 0), NONE);
        due("set(0, -1, 0, 0)", x.set(0, -1, 0, 0), NONE);
        due("set(0, 0, 2, 100)", x.set(0, 0, 2, 100), NONE);
        due("set(0, 0, -1, 0)", x.set(0, 0, -1, 0), NONE);
        due("set(0, 0, 0, 100)", x.set(0, 0, 0, 100), BAD);
        due("set(0, 0, 1, -1)", x.set(0, 0, 1, -1), BAD);
        due("of(0, 10)", x.of(0, 10), 99);
        due("of(0, 20)", x.of(0, 20), 0);
    }

    private static void of() {
        title = "promise 4";
        // of 57 and of 5, with v 7, BEARS 20, GIVES 11, and a PART of 50, then of 198
        int[] ofMuch = {28, 57, 56, 20, 50, 56, 10};
        int[] ofLittle = {2, 5, 4, 2, 0, 4, 1};
        int[] ofMuchTwice = {57, 57, 57, 20, 50, 57, 10};
        int[] ofLittleTwice = {5, 5, 5, 5, 0, 5, 4};
        int[] leaves = {11, 0, 11, 11, 0, 11, 5};
        for (int kind = 0; kind < 7; kind++) {
            BakedBefore x = with(7, kind);
            for (int t = 0; t < 4; t++) {
                x.set(0, t, 0, 11);
                x.set(0, t, 1, 20);
            }
            x.oven(0, 57);
            x.oven(1, 5);
            String of = "KIND " + kind;
            due(of + " as KIND", x.of(0, 0), kind);
            due(of + " v", x.of(0, 1), 7);
            due(of + " FEE", x.of(0, 2), 1);
            due(of + " GIVES", x.of(0, 10), 11);
            due(of + " BEARS", x.of(0, 23), 20);
            due(of + " TAKES of 57", x.of(0, 30), ofMuch[kind]);
            due(of + " TAKES of 5", x.of(0, 31), ofLittle[kind]);
            due(of + " TAKES of none", x.of(0, 33), 0);
            due(of + " LEAVES of 0", x.of(0, 40), kind == 5 ? 18 : leaves[kind]);
            due(of + " LEAVES of 1", x.of(0, 41), leaves[kind]);
            due(of + " SPOILED", x.of(0, 3), ofMuch[kind] > 20 ? 1 : 0);
            kiln(x, "take 99 t<9;take 99 t<9;more 5 t=0");
            due(of + " TAKES twice of 57", x.of(0, 30), ofMuchTwice[kind]);
            due(of + " TAKES twice of 5", x.of(0, 31), ofLittleTwice[kind]);
            int[] more = {16, 0, 16, 16, 0, 23, 8};
            due(of + " LEAVES with MORE", x.of(0, 40), more[kind]);
        }
        BakedBefore x = with(3, 0);
        x.oven(2, 57);
        x.set(0, 2, 1, 28);
        due("what is just borne", x.of(0, 3), 0);
        x.set(0, 2, 1, 27);
        due("what is no more borne", x.of(0, 3), 1);
        int[] wrong = {-1, 4, 9, 14, 19, 24, 34, 39, 44, 50, MAX, MIN};
        for (int what : wrong) {
            due("of(0, " + what + ")", x.of(0, what), NONE);
        }
        due("of(1, 0)", x.of(1, 0), NONE);
        due("of(-1, 0)", x.of(-1, 0), NONE);
    }

    private static void oven() {
        title = "promise 5";
        BakedBefore x = new BakedBefore();
        due("oven(0, 9999)", x.oven(0, 9999), 0);
        due("oven(0, 3)", x.oven(0, 3), 9999);
        due("oven(3, 8)", x.oven(3, 8), 0);
        due("oven(3, 0)", x.oven(3, 0), 8);
        due("oven(4, 1)", x.oven(4, 1), NONE);
        due("oven(-1, 10000)", x.oven(-1, 10000), NONE);
        due("oven(0, 10000)", x.oven(0, 10000), BAD);
        due("oven(0, -1)", x.oven(0, -1), BAD);
        due("told(0)", x.told(0), 3);
        due("told(4)", x.told(4), 0);
    }

    private static void feedTheText() {
        title = "promise 6";
        BakedBefore x = new BakedBefore();
        due("feed(-1)", x.feed(-1), BAD);
        due("feed(128)", x.feed(128), BAD);
        due("feed(0)", x.feed(0), 1);
        due("feed(127)", x.feed(127), 2);
        for (int i = 3; i <= 100; i++) {
            due("feed", x.feed('a'), i);
        }
        due("a 101st", x.feed('a'), FULL);
        due("a 101st that is none", x.feed(128), BAD);
        due("count(3)", x.count(3), 100);
        due("kiln()", x.kiln(), -10);
        due("count(3)", x.count(3), 0);
    }

    private static void faults() {
        title = "promise 7";
        fault("", 0);
        fault("x", 0);
        fault(" take", 0);
        fault("TAKE", 0);
        fault("t", 1);
        fault("tx", 1);
        fault("mor ", 3);
        fault("fees", 3);
        fault("colt", 3);
        fault("take", 4);
        fault("takes", 4);
        fault("cold", 4);
        fault("fee", 3);
        fault("take ", 5);
        fault("take x", 5);
        fault("take  1", 5);
        fault("take 1", 6);
        fault("take 1x", 6);
        fault("take 1;", 6);
        fault("take 12", 7);
        fault("take 123", 7);
        fault("take 12 ", 8);
        fault("take 12  t<1", 8);
        fault("take 1 x<1", 7);
        fault("take 1 t", 8);
        fault("take 1 t!", 8);
        fault("take 1 t ", 8);
        fault("take 1 t<", 9);
        fault("take 1 t<x", 9);
        fault("take 1 t?1", 8);
        fault("take 1 t;1", 8);
        fault("take 1 t<1 ", 10);
        fault("take 1 t<100", 11);
        fault("take 1 t<1)", 10);
        fault("take 1 t<1&", 11);
        fault("take 1 t<1|", 11);
        fault("take 1 t<1||t<1", 11);
        fault("take 1 (", 8);
        fault("take 1 ()", 8);
        fault("take 1 !", 8);
        fault("take 1 !)", 8);
        fault("take 1 (t<1", 11);
        fault("take 1 (t<1;", 11);
        fault("take 1 t<1;", 11);
        fault("take 1 t<1;;", 11);
        fault("take 1 t<1; fee", 11);
        fault("cold 9 ", 6);
        fault("cold 9 t=1", 6);
        fault("cold 100", 7);
        fault("take 1 (((((t=1)))))", 11);
        fault("take 1 !!!!!t=1", 11);
        fault("take 1 (!(!(t=1)))", 11);
        fault("take 1 t=1&!(!(!t=1))", 15);
        fault("cold 1;cold 1;cold 1;cold 1;cold 1;cold 1;cold 1;cold 1;cold 1;cold 1;cold 1", 69);
        StringBuilder longest = new StringBuilder("take 1 t<1");
        while (longest.length() < 97) {
            longest.append("|t<1");
        }
        fault(longest + "|t", 100);
        BakedBefore x = new BakedBefore();
        for (int i = 0; i < 3; i++) {
            x.feed("take".charAt(i));
        }
        x.feed(0);
        due("a zero byte", x.kiln(), -13);
        x = with(0, 0);
        x.oven(0, 100);
        kiln(x, "take 7 t=0;more 8 t=0;fee 9 l=0;cold 10;take 11 t=0;");
        due("of a fault nothing stays", kiln(x, "cold 3"), 0);
        due("of a fault nothing stays, PART", x.of(0, 30), 50);
        due("of a fault nothing stays, MORE", x.of(0, 40), 0);
        due("of a fault nothing stays, FEE", x.of(0, 2), 1);
        kiln(x, "cold 4;take 1 t=9|t=9&");
        due("of a fault nothing stays", kiln(x, "fee 3 l=0"), 1);
        due("of a fault nothing stays, FEE", x.of(0, 2), 4);
        due("of a fault nothing stays, cold", x.told(5), 50);
        due("of a fault nothing stays, PART", x.of(0, 30), 50);
    }

    private static void fault(String text, int place) {
        BakedBefore x = new BakedBefore();
        kiln(x, "cold 7");
        due("the FAULT of '" + text + "'", kiln(x, text), -10 - place);
        due("the text behind '" + text + "'", x.count(3), 0);
        due("the count behind '" + text + "'", x.count(1), 1);
        due("what holds behind '" + text + "'", x.told(5), 7);
    }

    private static void kilnsThatAre() {
        title = "promise 7";
        String[] texts = {
            "cold 0", "cold 00", "take 0 l<0", "fee 05 h>00", "more 99 o=99|v=9&k=6",
            "take 1 ((((t=1))))", "take 1 !!!!t=1", "take 1 (!(!t=1))",
            "take 1 (t<1)&(t<1)&(t<1)&(t<1)|(t<1)", "take 1 !t<1&!t<1&!t<1|!t<1|!t<1&!t<1",
            "cold 1;cold 1;cold 1;cold 1;cold 1;cold 1;cold 1;cold 1;cold 1;cold 1",
        };
        for (String text : texts) {
            due("'" + text + "'", kiln(new BakedBefore(), text), 0);
        }
        BakedBefore x = new BakedBefore();
        for (int i = 0; i < 6; i++) {
            due("kiln " + i, kiln(x, "cold 1" + i), i);
            due("it holds", x.told(5), 10 + i);
            due("a fault between", kiln(x, "cold"), i == 5 ? FULL : -14);
            due("what holds still", x.told(5), 10 + i);
        }
        due("THE TEXT stays", x.count(3), 4);
        due("a 7th", x.kiln(), FULL);
        due("THE TEXT stays", x.count(3), 4);
        due("what holds still", x.told(5), 15);
        due("count(1)", x.count(1), 6);
    }

    /** What of a LOAF of the number l, KIND 0, with v 4, a TEXT makes of(l, what); THE OVEN holds 100. */
    private static void clause(String text, int l, int what, int want) {
        BakedBefore x = with(4, 0, 0, 0);
        for (int t = 0; t < 4; t++) {
            x.oven(t, 100);
        }
        due("'" + text + "' is one", kiln(x, text), 0);
        due("'" + text + "' of(" + l + ", " + what + ")", x.of(l, what), want);
    }

    private static void clauses() {
        title = "promise 7";
        clause("cold 3", 0, 30, 50);
        clause("take 7 t=1", 0, 30, 0);
        clause("take 7 t=1", 0, 31, 7);
        clause("take 7 t<2;take 30 t>0", 0, 30, 7);
        clause("take 7 t<2;take 30 t>0", 0, 31, 37);
        clause("take 7 t<2;take 30 t>0", 0, 33, 30);
        clause("more 7 t<2;more 30 t>0", 0, 41, 37);
        clause("more 7 t<2;more 30 t>0", 0, 43, 30);
        clause("more 7 t=1;cold 4", 0, 40, 0);
        clause("fee 7 l=1;fee 30 l>0", 0, 2, 1);
        clause("fee 7 l=1;fee 30 l>0", 1, 2, 38);
        clause("fee 7 l=1;fee 30 l>0", 2, 2, 31);
        clause("fee 7 t=99&o=99", 0, 2, 8);
        clause("fee 7 t<99|o<99|t>99|o>99", 0, 2, 1);
        clause("take 7 l=0;more 5 l=0;fee 3 l=0", 0, 30, 7);
        clause("take 7 l=0;more 5 l=0;fee 3 l=0", 0, 40, 5);
        clause("take 7 l=0;more 5 l=0;fee 3 l=0", 0, 2, 4);
        // | binds less than &, ! just what is next to it
        clause("take 9 l=0|l=1&k=5", 0, 30, 9);
        clause("take 9 (l=0|l=1)&k=5", 0, 30, 0);
        clause("take 9 k=5&l=1|l=0", 0, 30, 9);
        clause("take 9 k=5&(l=1|l=0)", 0, 30, 0);
        clause("take 9 !l=0&t=0", 1, 30, 9);
        clause("take 9 !l=0&t=0", 1, 31, 0);
        clause("take 9 !(l=0&t=0)", 1, 31, 9);
        clause("take 9 !!l=0", 0, 30, 9);
        clause("take 9 !!l=0", 1, 30, 0);
        clause("take 9 !(!!l=0)", 0, 30, 0);
        clause("take 9 !(!!l=0)", 1, 30, 9);
        clause("take 9 l=1|l=2|l=0", 0, 30, 9);
        clause("take 9 l<2&k=0&v=4&t<3", 1, 32, 9);
        clause("take 9 l<2&k=0&v=4&t<3", 1, 33, 0);
        clause("cold 9;cold 8;take 1 t=0", 0, 30, 1);
        clause("fee 1 l=0;fee 2 l=0;fee 3 l=0;fee 4 l=0;fee 5 l=0;fee 6 l=0;fee 7 l=0;fee 8 l=0;fee 9 l=0;fee 1 l=0",
            0, 2, 47);
        BakedBefore x = new BakedBefore();
        kiln(x, "cold 9;cold 8;take 1 t=0");
        due("the last cold", x.told(5), 8);
        kiln(x, "take 1 t=0");
        due("no cold", x.told(5), 50);
    }

    private static void tests() {
        title = "promise 7";
        for (int kind = 0; kind < 7; kind++) {
            BakedBefore x = with(kind + 2, 0, kind);
            kiln(x, "fee 1 l=1;fee 2 k=" + kind + ";fee 4 v=" + (kind + 2) + ";fee 8 k<" + kind + ";fee 16 v>" + (kind + 2));
            due("l, k, v of KIND " + kind, x.of(1, 2), 8);
        }
        BakedBefore x = with(0, 0);
        kiln(x, "fee 1 h=1;fee 2 h=59;fee 4 h=0");
        for (int hour = 1; hour <= 61; hour++) {
            x.cold();
            int h = hour % 60;
            due("h at HOUR " + hour, x.of(0, 2), h == 1 ? 2 : h == 59 ? 3 : h == 0 ? 5 : 1);
        }
        x = with(0, 0);
        kiln(x, "more 1 o=3;more 2 o>98;more 4 o=99;more 8 o=0");
        int[] held = {0, 9, 10, 29, 30, 39, 40, 989, 990, 999, 1000, 9999};
        int[] want = {8, 8, 0, 0, 1, 1, 0, 0, 6, 6, 2, 2};
        for (int i = 0; i < held.length; i++) {
            x.oven(2, held[i]);
            due("o of " + held[i], x.of(0, 42), want[i]);
        }
    }

    private static void told() {
        title = "promise 8";
        BakedBefore x = new BakedBefore();
        for (int t = 0; t < 4; t++) {
            x.oven(t, 11 * t + 5);
        }
        x.cold();
        due("told(0)", x.told(0), 2);
        due("told(1)", x.told(1), 8);
        due("told(2)", x.told(2), 13);
        due("told(3)", x.told(3), 19);
        due("told(4)", x.told(4), 1);
        due("told(5)", x.told(5), 50);
        kiln(x, "cold 33");
        due("told(5)", x.told(5), 33);
        due("told(6)", x.told(6), NONE);
        due("told(-1)", x.told(-1), NONE);
    }

    private static void bake() {
        title = "promise 9";
        BakedBefore x = with(9, 5, 0);
        due("bake(2)", x.bake(2), NONE);
        due("bake(-1)", x.bake(-1), NONE);
        due("HOUR", x.told(4), 0);
        x.oven(0, 9);
        x.oven(1, 10);
        x.oven(2, 9999);
        x.set(1, 1, 0, 4);
        x.set(1, 2, 1, 99);
        due("bake(1)", x.bake(1), 1);
        due("told(0)", x.told(0), 5);
        due("told(1)", x.told(1), 9);
        due("told(2)", x.told(2), 5000);
        due("told(4)", x.told(4), 1);
        x.oven(2, 9);
        due("bake(0)", x.bake(0), 0);
        due("told(0)", x.told(0), 10);
        due("told(1)", x.told(1), 1);
        due("told(2)", x.told(2), 1);
        due("told(4)", x.told(4), 2);
        x = with(0, 3);
        x.oven(3, 9950);
        x.set(0, 3, 0, 99);
        due("a bake to the brim", x.bake(0), 0);
        due("told(3)", x.told(3), 9999);
        x = with(0, 0);
        kiln(x, "take 50 h=0;more 9 h=0&o=2;take 10 h=1");
        x.oven(0, 29);
        x.bake(0);
        due("both by how all was ahead", x.told(0), 29 - 14 + 9);
        x.bake(0);
        due("the next HOUR", x.told(0), 24 - 2);
    }

    private static void cold() {
        title = "promise 10";
        BakedBefore x = new BakedBefore();
        x.oven(0, 9999);
        x.oven(3, 1);
        due("cold()", x.cold(), 1);
        due("told(0)", x.told(0), 4999);
        due("told(3)", x.told(3), 0);
        kiln(x, "cold 99");
        due("cold()", x.cold(), 2);
        due("told(0)", x.told(0), 4949);
        kiln(x, "cold 0");
        due("cold()", x.cold(), 3);
        due("told(0)", x.told(0), 0);
    }

    private static void would() {
        title = "promise 11";
        BakedBefore x = with(0, 0, 1, 0);
        gives(x, 2, 40);
        x.oven(0, 18);
        x.oven(3, 7);
        due("would(0, -1, 0)", x.would(0, -1, 0), 9);
        due("would(0, -1, 3)", x.would(0, -1, 3), 3);
        due("would(0, -1, 4)", x.would(0, -1, 4), 0);
        due("would(0, 1, 0)", x.would(0, 1, 0), 0);
        due("would(0, 2, 0)", x.would(0, 2, 0), 24);
        due("would(0, 2, 4)", x.would(0, 2, 4), 1);
        due("would(1, 2, 4)", x.would(1, 2, 4), 1);
        due("would(2, 0, 0)", x.would(2, 0, 0), 4);
        due("would(0, 0, 0)", x.would(0, 0, 0), BAD);
        due("would(0, 0, 5)", x.would(0, 0, 5), NONE);
        due("would(3, -1, 0)", x.would(3, -1, 0), NONE);
        due("would(-1, -1, 0)", x.would(-1, -1, 0), NONE);
        due("would(0, 3, 0)", x.would(0, 3, 0), NONE);
        due("would(0, -2, 0)", x.would(0, -2, 0), NONE);
        due("would(0, 1, 5)", x.would(0, 1, 5), NONE);
        due("would(0, 1, -1)", x.would(0, 1, -1), NONE);
        due("told(0)", x.told(0), 18);
        due("told(4)", x.told(4), 0);
        kiln(x, "take 10 h=1");
        due("behind one it is an HOUR later", x.would(0, 2, 0), 5);
        due("behind none it is not", x.would(0, -1, 0), 0);
    }

    private static void order() {
        title = "promise 12";
        BakedBefore x = with(0, 0, 0, 3);
        gives(x, 0, 40);
        due("order(3, -1)", x.order(3, -1), 0);
        due("order(3, 0)", x.order(3, 0), 1);
        due("order(3, 1)", x.order(3, 1), 0);
        due("order(3, 2)", x.order(3, 2), ABSENT);
        due("order(7, 0)", x.order(7, 0), 1);
        due("order(7, 1)", x.order(7, 1), 0);
        due("order(7, 2)", x.order(7, 2), 2);
        due("order(6, 0)", x.order(6, 0), 1);
        due("order(6, 1)", x.order(6, 1), 2);
        due("order(4, 0)", x.order(4, 0), 2);
        due("order(0, -1)", x.order(0, -1), 0);
        due("order(0, 0)", x.order(0, 0), ABSENT);
        due("order(0, 5)", x.order(0, 5), ABSENT);
        due("order(1, 6)", x.order(1, 6), NONE);
        due("order(8, -2)", x.order(8, -2), NONE);
        due("order(8, 0)", x.order(8, 0), BAD);
        due("order(-1, 0)", x.order(-1, 0), BAD);
        due("order(MIN, -1)", x.order(MIN, -1), BAD);
        due("told(4)", x.told(4), 0);
        due("told(0)", x.told(0), 0);
        x.oven(0, 99);
        due("all orders spoil one", x.order(3, -1), 2);
        due("the first of these", x.order(3, 0), 0);
        x = with(0, 0, 0, 0, 0, 0, 0);
        due("six", x.order(63, -1), BAD);
        due("five", x.order(62, -1), 0);
        due("the last of five", x.order(62, 4), 5);
        due("behind the last of five", x.order(62, 5), ABSENT);
    }

    private static void colds() {
        title = "promise 13";
        BakedBefore x = with(0, 0, 0);
        gives(x, 0, 40);
        due("colds(3, -1)", x.colds(3, -1), 2);
        due("colds(3, 0)", x.colds(3, 0), 0);
        due("colds(3, 1)", x.colds(3, 1), 2);
        due("colds(3, 2)", x.colds(3, 2), ABSENT);
        due("colds(2, -1)", x.colds(2, -1), 0);
        due("colds(0, -1)", x.colds(0, -1), 0);
        due("colds(0, 0)", x.colds(0, 0), ABSENT);
        due("colds(3, 5)", x.colds(3, 5), ABSENT);
        due("colds(1, 6)", x.colds(1, 6), NONE);
        due("colds(4, -2)", x.colds(4, -2), NONE);
        due("colds(4, 0)", x.colds(4, 0), BAD);
        due("colds(-1, 0)", x.colds(-1, 0), BAD);
        x.oven(1, 9999);
        due("none", x.colds(3, -1), ABSENT);
        due("none", x.colds(3, 0), ABSENT);
        due("told(1)", x.told(1), 9999);
        due("told(4)", x.told(4), 0);
        // 319 / 2 / 2 / 2 / 2 is 19, of which it TAKES 9; of 20 it TAKES 10
        x.oven(1, 319);
        due("just four", x.colds(2, -1), 4);
        due("just four", x.colds(2, 0), 4);
        x.oven(1, 320);
        due("more than four", x.colds(2, -1), ABSENT);
        // one COLD HOUR ahead of either makes all good: the first as a row is 0, 1
        x = with(0, 3, 0, 0, 0, 0);
        x.oven(0, 40);
        due("of several", x.colds(3, -1), 1);
        due("of several the first", x.colds(3, 0), 0);
        due("of several the first", x.colds(3, 1), 1);
        due("five", x.colds(31, -1), BAD);
        due("four", x.colds(30, -1), 2);
        due("the last of four", x.colds(30, 3), 0);
        due("behind the last of four", x.colds(30, 4), ABSENT);
    }

    private static void place() {
        title = "promise 14";
        BakedBefore x = with(0, 0, 0, 1);
        gives(x, 1, 40);
        x.oven(0, 10);
        due("place(0, 0)", x.place(0, 0), 2);
        due("place(0, 1)", x.place(0, 1), 0);
        due("place(1, 0)", x.place(1, 0), 2);
        due("place(2, 0)", x.place(2, 0), 1);
        due("place(2, 1)", x.place(2, 1), 5);
        due("place(3, 0)", x.place(3, 0), NONE);
        due("place(-1, 0)", x.place(-1, 0), NONE);
        due("place(0, 2)", x.place(0, 2), NONE);
        due("place(0, -1)", x.place(0, -1), NONE);
        due("told(0)", x.told(0), 10);
        x.oven(0, 0);
        due("of several", x.place(0, 0), 0);
        x = with(0, 0);
        x.oven(0, 8);
        x.oven(3, 6);
        due("an only one", x.place(0, 0), 0);
        due("an only one takes of all", x.place(0, 1), 7);
    }

    private static void guilty() {
        title = "promise 15";
        BakedBefore x = with(0, 0, 3, 0);
        bears(x, 1, 0);
        gives(x, 0, 30);
        due("guilty(2)", x.guilty(2), 1);
        due("guilty(0)", x.guilty(0), 0);
        due("guilty(1)", x.guilty(1), 0);
        due("guilty(3)", x.guilty(3), NONE);
        due("guilty(-1)", x.guilty(-1), NONE);
        due("told(4)", x.told(4), 0);
        gives(x, 0, 10);
        gives(x, 1, 10);
        due("either", x.guilty(2), 3);
        gives(x, 0, 30);
        gives(x, 1, 30);
        due("neither alone", x.guilty(2), 0);
        gives(x, 0, 1);
        due("the second alone", x.guilty(2), 2);
        gives(x, 1, 1);
        due("not SPOILED", x.guilty(2), 0);
    }

    private static void two() {
        title = "promise 16";
        BakedBefore x = with(0, 0, 0);
        due("nothing spoils", x.two(0), 0);
        due("all in the second one", x.two(1), 0);
        gives(x, 0, 40);
        due("two(0)", x.two(0), 0);
        due("two(1)", x.two(1), 1);
        due("two(2)", x.two(2), NONE);
        due("two(-1)", x.two(-1), NONE);
        x.oven(0, 100);
        due("both as THE OVEN is", x.two(0), 2);
        due("the least set", x.two(1), 0);
        due("told(4)", x.told(4), 0);
        x = with(0, 0, 0, 0);
        gives(x, 0, 40);
        gives(x, 1, 40);
        due("three", x.two(0), 1);
        due("three, the set", x.two(1), 1);
        x = with(0, 0, 0);
        kiln(x, "take 90 h=1;more 20 t=0");
        due("each with its own HOURS", x.two(0), 0);
        due("each with its own HOURS, the set", x.two(1), 1);
    }

    private static void has() {
        title = "promise 17";
        BakedBefore x = with(0, 1, 0, 0);
        kiln(x, "fee 5 l=0;fee 2 l=1;fee 29 l=2;take 50 t<9");
        x.oven(0, 20);
        // 0 cleans for 1, 1 leaves less for 2
        due("has(0)", x.has(0), 6);
        due("has(1)", x.has(1), 3 - 6);
        due("has(2)", x.has(2), -3);
        gives(x, 1, 40);
        due("has(1), who pays both", x.has(1), -30 - 6);
        due("has(2), who is paid", x.has(2), 30);
        x.oven(0, 0);
        gives(x, 1, 0);
        due("no less: the first pays", x.has(0), -3);
        due("no less: gets and pays", x.has(1), 3 - 30);
        due("no less: the last gets", x.has(2), 30);
        due("has(3)", x.has(3), -100001);
        due("has(-1)", x.has(-1), -100001);
        due("told(4)", x.told(4), 0);
        x = with(0, 0);
        due("an only one", x.has(0), 0);
        x = with(0, 1, 0);
        kiln(x, "fee 5 h=0;fee 9 h=1");
        x.oven(3, 20);
        due("FEE by the HOUR as now", x.has(0), 6);
        x = with(0, 0, 0);
        x.oven(0, 9999);
        x.would(0, 1, 0);
        x.oven(0, 40);
        due("from now, not from what was asked", x.has(0), 1);
        due("from now, not from what was asked", x.has(1), -1);
    }

    private static void swaps() {
        title = "promise 18";
        BakedBefore x = with(0, 0, 0);
        gives(x, 0, 40);
        x.oven(0, 10);
        due("swaps(0), both less", x.swaps(0), 1);
        x.oven(0, 0);
        due("swaps(0), one less", x.swaps(0), 1);
        gives(x, 0, 0);
        due("swaps(0), none less", x.swaps(0), 0);
        // HOLY TAKES what it BEARS in either order, the other of 100 or of 91
        BakedBefore y = with(0, 0, 3);
        y.oven(0, 100);
        due("swaps(0), the first less", y.swaps(0), 1);
        y = with(0, 0, 0, 3);
        gives(y, 0, 60);
        due("swaps(1), of the 60 ahead", y.swaps(1), 1);
        y = with(0, 0, 1, 0, 0);
        y.set(0, 0, 0, 60);
        y.set(2, 0, 0, 30);
        due("swaps(0), the second less", y.swaps(0), 1);
        due("swaps(1), by the 60 ahead", y.swaps(1), 0);
        due("swaps(2), by nothing ahead", y.swaps(2), 1);
        due("swaps(1)", x.swaps(1), NONE);
        due("swaps(2)", x.swaps(2), NONE);
        due("swaps(-1)", x.swaps(-1), NONE);
        due("swaps(-2)", x.swaps(-2), NONE);
        due("swaps(MAX)", x.swaps(MAX), NONE);
        x = with(0, 1, 0);
        x.oven(1, 20);
        due("one less, one more", x.swaps(0), 0);
        due("told(4)", x.told(4), 0);
        x = with(0, 0, 0, 0);
        gives(x, 1, 40);
        due("by what is ahead", x.swaps(1), 1);
        due("by what is ahead", x.swaps(0), 0);
        kiln(x, "take 50 h=2;take 20 h=1");
        due("all HOURS count", x.swaps(1), 1);
    }

    private static void span() {
        title = "promise 19";
        BakedBefore x = with(3, 0, 3, 1, 4, 6, 2);
        spanOf(x, 0, 5, 10, 11);
        spanOf(x, 0, 0, 0, 1);
        spanOf(x, 0, 4999, 9998, 9999);
        spanOf(x, 0, 5000, ABSENT, ABSENT);
        spanOf(x, 0, 9999, ABSENT, ABSENT);
        spanOf(x, 1, 9, 18, 9999);
        spanOf(x, 1, 10, ABSENT, ABSENT);
        spanOf(x, 2, 7, 7, 7);
        spanOf(x, 2, 9999, 9999, 9999);
        spanOf(x, 3, 0, 0, 3);
        spanOf(x, 3, 5, 8, 8);
        spanOf(x, 3, 9997, ABSENT, ABSENT);
        spanOf(x, 4, 4, 16, 9999);
        spanOf(x, 5, 6, 6, 7);
        spanOf(x, 5, 7, ABSENT, ABSENT);
        kiln(x, "take 50 o<2;take 10 o>1");
        spanOf(x, 0, 2, 4, 29);
        spanOf(x, 0, 9, 18, 99);
        spanOf(x, 0, 999, 9990, 9999);
        kiln(x, "take 50 o<99&h=0");
        spanOf(x, 0, 0, 0, 9999);
        spanOf(x, 0, 494, 988, 989);
        spanOf(x, 0, 495, ABSENT, ABSENT);
        x.cold();
        spanOf(x, 0, 494, ABSENT, ABSENT);
        due("span(6, ..)", x.span(6, 0, 0, 0), NONE);
        due("span(-1, ..)", x.span(-1, 0, 0, 0), NONE);
        due("span(0, 4, ..)", x.span(0, 4, 0, 0), NONE);
        due("span(0, -1, ..)", x.span(0, -1, 0, 0), NONE);
        due("span(0, 0, 0, 2)", x.span(0, 0, 0, 2), NONE);
        due("span(0, 0, -1, -1)", x.span(0, 0, -1, -1), NONE);
        due("span(0, 0, -1, 0)", x.span(0, 0, -1, 0), BAD);
        due("span(0, 0, 10000, 1)", x.span(0, 0, 10000, 1), BAD);
    }

    private static void spanOf(BakedBefore x, int loaf, int took, int least, int greatest) {
        for (int t = 0; t < 4; t++) {
            due("span(" + loaf + ", " + t + ", " + took + ", 0)", x.span(loaf, t, took, 0), least);
            due("span(" + loaf + ", " + t + ", " + took + ", 1)", x.span(loaf, t, took, 1), greatest);
        }
    }

    private static void year() {
        title = "promise 20";
        BakedBefore x = with(0, 0, 3);
        gives(x, 0, 40);
        x.set(1, 1, 0, 7);
        x.oven(0, 100);
        due("year(0, 2, 0)", x.year(0, 2, 0), 100);
        due("year(0, 2, 4)", x.year(0, 2, 4), 0);
        due("HOUR 0 is cold", x.year(1, 2, 0), 50);
        due("then loaf 0", x.year(2, 2, 0), 65);
        due("SPOILED", x.year(2, 2, 4), 1);
        due("then cold", x.year(3, 2, 0), 32);
        due("then loaf 1", x.year(4, 2, 0), 23);
        due("then loaf 1", x.year(4, 2, 1), 7);
        due("then cold", x.year(5, 2, 0), 11);
        due("then loaf 0 again", x.year(6, 2, 0), 46);
        due("what it bears", x.year(6, 2, 4), 1);
        x.cold();
        due("from HOUR 1 on", x.year(1, 2, 0), 65);
        due("f 30", x.year(60, 30, 4) >= 0 ? 1 : 0, 1);
        due("year(61, 2, 0)", x.year(61, 2, 0), -100002);
        due("year(-1, 2, 0)", x.year(-1, 2, 0), -100002);
        due("year(1, 1, 0)", x.year(1, 1, 0), -100002);
        due("year(1, 0, 0)", x.year(1, 0, 0), -100002);
        due("year(1, 31, 0)", x.year(1, 31, 0), -100002);
        due("year(61, 0, 5)", x.year(61, 0, 5), -100001);
        due("year(1, 2, -1)", x.year(1, 2, -1), -100001);
        due("told(0)", x.told(0), 50);
        due("told(4)", x.told(4), 1);
        BakedBefore empty = new BakedBefore();
        due("without LOAVES", empty.year(1, 2, 0), -100003);
        due("without LOAVES and f", empty.year(1, 31, 0), -100002);
    }

    private static void odds() {
        title = "promise 21";
        BakedBefore x = with(0, 0, 0, 0, 0, 0);
        fraction(x, 0, 0, 1);
        gives(x, 1, 40);
        fraction(x, 0, 1, 4);
        gives(x, 0, 40);
        fraction(x, 1, 1, 4);
        fraction(x, 4, 1, 2);
        gives(x, 0, 0);
        gives(x, 2, 40);
        fraction(x, 0, 1, 2);
        fraction(x, 1, 1, 4);
        gives(x, 3, 40);
        fraction(x, 0, 3, 4);
        gives(x, 4, 40);
        fraction(x, 0, 1, 1);
        due("odds(5, 0)", x.odds(5, 0), NO);
        due("odds(-1, 0)", x.odds(-1, 0), NO);
        due("odds(0, 2)", x.odds(0, 2), NO);
        due("odds(0, -1)", x.odds(0, -1), NO);
        due("told(4)", x.told(4), 0);
        due("no other", with(0, 0).odds(0, 0), NO);
        due("two", with(0, 0, 0).odds(1, 1), 1);
    }

    private static void fraction(BakedBefore x, int loaf, int above, int below) {
        due("odds(" + loaf + ", 0)", x.odds(loaf, 0), above);
        due("odds(" + loaf + ", 1)", x.odds(loaf, 1), below);
    }

    private static void mean() {
        title = "promise 22";
        BakedBefore x = with(0, 0, 0);
        x.oven(1, 10);
        due("mean(1, 0)", x.mean(1, 0), 5);
        due("mean(1, 1)", x.mean(1, 1), 1);
        due("mean(0, 0)", x.mean(0, 0), 0);
        due("mean(0, 1)", x.mean(0, 1), 1);
        x.loaf(1, 0);
        x.loaf(1, 0);
        due("30 by 4, above", x.mean(1, 0), 15);
        due("30 by 4, below", x.mean(1, 1), 2);
        x.oven(3, 9999);
        for (int i = 0; i < 2; i++) {
            x.loaf(1, 0);
        }
        due("49994 by 6, above", x.mean(3, 0), 24997);
        due("49994 by 6, below", x.mean(3, 1), 3);
        due("mean(4, 0)", x.mean(4, 0), NO);
        due("mean(-1, 0)", x.mean(-1, 0), NO);
        due("mean(0, 2)", x.mean(0, 2), NO);
        due("mean(0, -1)", x.mean(0, -1), NO);
        due("without LOAVES", new BakedBefore().mean(0, 0), NO);
    }

    private static void book() {
        title = "promise 23";
        BakedBefore x = with(0, 0);
        due("book(1, ..)", x.book(1, true), NONE);
        due("book(-3, ..)", x.book(-3, true), NONE);
        due("book(-1, ..)", x.book(-1, true), 0);
        for (int i = 1; i <= 12; i++) {
            due("row " + i, x.book(i % 2 == 0 ? -2 : 0, false), i);
        }
        due("a 13th", x.book(0, false), FULL);
        due("a 13th of none", x.book(1, false), NONE);
        due("count(2)", x.count(2), 12);
        due("all is told well", x.looked(), ABSENT);
        due("emptied", x.book(-1, false), 0);
        due("count(2)", x.count(2), 0);
        due("anew", x.book(-2, true), 1);
    }

    private static void looked() {
        title = "promise 24";
        BakedBefore x = with(0, 0, 0);
        due("an empty one", x.looked(), ABSENT);
        gives(x, 0, 40);
        x.book(0, false);
        due("as told", x.looked(), ABSENT);
        x.book(1, true);
        due("SPOILED as told", x.looked(), ABSENT);
        x.book(-2, false);
        x.book(-2, false);
        x.book(1, false);
        due("not SPOILED as told", x.looked(), ABSENT);
        x.book(1, true);
        due("otherwise", x.looked(), 5);
        x.book(-1, false);
        x.book(0, false);
        x.book(-2, true);
        due("a COLD HOUR is not SPOILED", x.looked(), 1);
        x.oven(0, 20);
        due("from how all is", x.looked(), 0);
        due("told(0)", x.told(0), 20);
        due("told(4)", x.told(4), 0);
    }

    private static void judge() {
        title = "promise 25";
        BakedBefore x = new BakedBefore();
        for (int t = 0; t < 4; t++) {
            x.oven(t, 100 * t + 7);
        }
        due("judge(-1, 0)", x.judge(-1, 0), NONE);
        due("judge(6, 0)", x.judge(6, 0), NONE);
        due("nothing", x.judge(0, 0), 100);
        due("nothing, from -1", x.judge(0, -1), 100);
        x.tape(0, 1, 6);
        for (int t = 0; t < 4; t++) {
            x.item(0, 2 + t, 100 * t + 7);
        }
        due("all as told", x.judge(0, 2), ABSENT);
        due("otherwise at once", x.judge(0, 1), 0);
        due("otherwise at once", x.judge(0, 3), 0);
        due("ends behind it", x.judge(0, 6), 100);
        due("from far behind", x.judge(0, 7), 100);
        due("from far behind", x.judge(0, MAX), 100);
        due("from below 0", x.judge(0, -1), 100);
        due("from far below 0", x.judge(0, MIN), 100);
        for (int t = 0; t < 4; t++) {
            x.oven(t, 100 * t + 8);
            due("otherwise of " + t, x.judge(0, 2), t);
            x.oven(t, 100 * t + 7);
            x.tape(1, 1, t);
            for (int i = 0; i < t; i++) {
                x.item(1, i, 100 * i + 7);
            }
            due("ends after " + t, x.judge(1, 0), 100 + t);
        }
        x.oven(1, 9);
        due("otherwise ahead of its end", x.judge(1, 0), 1);
        for (int sort = 0; sort < 5; sort++) {
            x.tape(2, sort, 8);
            due("of sort " + sort, x.judge(2, 0), sort == 1 ? 0 : CAST);
            due("of sort " + sort + " from -1", x.judge(2, -1), sort == 1 ? 100 : CAST);
        }
    }

    private static void imageAndUndo() {
        title = "promise 26";
        BakedBefore x = new BakedBefore();
        due("image() of none", x.image(), 0);
        title = "promise 27";
        x.loaf(0, 0);
        due("undo() to none", x.undo(), 0);
        due("no LOAVES", x.count(0), 0);
        due("undo() without", new BakedBefore().undo(), STATE);
        x.loaf(0, 1);
        x.loaf(6, 2);
        x.set(0, 0, 0, 22);
        x.set(0, 1, 0, 33);
        x.set(1, 2, 1, 44);
        x.oven(3, 77);
        x.cold();
        x.book(0, true);
        x.book(-2, true);
        kiln(x, "cold 11");
        x.tape(0, 2, 3);
        x.item(0, 1, 5);
        title = "promise 26";
        due("image()", x.image(), 2);
        title = "promise 27";
        for (int round = 0; round < 2; round++) {
            x.set(0, 0, 0, 1);
            x.set(0, 1, 0, 1);
            x.set(1, 2, 1, 1);
            x.oven(3, 1);
            x.bake(0);
            x.book(-1, false);
            x.book(0, false);
            x.loaf(3, 3);
            x.set(2, 0, 0, 5);
            x.set(2, 0, 1, 5);
            kiln(x, "cold 2" + round);
            x.item(0, 1, 6 + round);
            x.feed('c');
            x.act(0, 1, 3);
            due("undo()", x.undo(), 2);
            due("count(0)", x.count(0), 2);
            due("of(0, 1)", x.of(0, 1), 1);
            due("of(1, 0)", x.of(1, 0), 6);
            due("GIVES of 0", x.of(0, 10), 22);
            due("GIVES of 1", x.of(0, 11), 33);
            due("BEARS", x.of(1, 22), 44);
            due("THE OVEN", x.told(3), 38);
            due("HOUR", x.told(4), 1);
            due("the KILN that held", x.told(5), 11);
            due("the BOOK", x.count(2), 2);
            due("its rows", x.looked(), 1);
            due("KILNS stay", x.count(1), 2 + round);
            due("TAPES stay", x.read(0, 1), 6 + round);
            due("THE TRACE stays", x.count(4), 2);
            due("THE TEXT stays", x.count(3), 1);
            due("a fault", x.kiln(), -11);
            due("the KILN holds still", x.told(5), 11);
        }
        x.loaf(4, 5);
        due("a new LOAF GIVES", x.of(2, 10), 0);
        due("a new LOAF BEARS", x.of(2, 20), 9);
        due("a new LOAF's KIND", x.of(2, 0), 4);
        due("a new KILN", kiln(x, "cold 30"), 3);
        due("it holds", x.told(5), 30);
        x = with(8, 1, 2, 3, 4, 5, 6);
        for (int row = 0; row < 12; row++) {
            x.book(-2, row == 11);
        }
        due("image() of six", x.image(), 6);
        x.book(-1, false);
        due("undo() to six", x.undo(), 6);
        due("all rows", x.count(2), 12);
        due("the last row", x.looked(), 11);
        for (int i = 0; i < 6; i++) {
            due("its KIND", x.of(i, 0), i + 1);
            due("its v", x.of(i, 1), 8);
        }
        x = new BakedBefore();
        x.image();
        kiln(x, "cold 9");
        x.undo();
        due("no KILN held", x.told(5), 50);
        due("count(1)", x.count(1), 1);
    }

    private static void act() {
        title = "promise 28";
        BakedBefore x = with(7, 0, 1, 2, 3, 4, 5);
        int[][] rises = {{5, 10}, {6, 10}, {17, 30, 10}, {8, 10}, {-9, 50, 10}, {20, 30, 10}};
        int[][] bakes = {{-2, 11, 10}, {-7, 20, 11, 10}, {10, 11, 30, 10}, {1, 11, 10},
            {-23, 51, 20, 11, 50, 10}, {13, 11, 30, 10}};
        int[][] tells = {{-4, 12, 11, 10}, {-14, 12, 20, 11, 10}, {20, 12, 11, 30, 10},
            {-1, 40, 12, 11, 10, 11, 10}, {-46, 12, 51, 20, 11, 50, 10}, {-4, 60, 12, 11, 30, 10}};
        for (int i = 0; i < 6; i++) {
            acted(x, i, 0, rises[i]);
            acted(x, i, 1, bakes[i]);
            acted(x, i, 2, tells[i]);
        }
        due("wrapping", x.act(1, 0, MAX), MIN);
        due("wrapping of 3 times", x.act(2, 0, MAX), MAX);
        due("wrapping of 2 times", x.act(0, 2, MAX), -16);
        due("wrapping less", x.act(5, 2, MIN), 2 * (3 * (MIN - 5) + 5 - 7));
        x = with(7, 0, 6);
        acted(x, 1, 0, new int[] {1, 71, 10});
        acted(x, 1, 1, new int[] {-3, 70, 11, 71, 10, 10});
        acted(x, 1, 2, new int[] {-5, 40, 12, 70, 11, 71, 10, 10, 70, 11, 71, 10, 10});
        int[][] wrong = {{2, 0}, {-1, 0}, {0, 3}, {0, -1}};
        for (int[] w : wrong) {
            x.act(1, 2, 5);
            due("act(" + w[0] + ", " + w[1] + ", 9)", x.act(w[0], w[1], 9), 0);
            due("no TRACE then", x.trace(0), NONE);
            due("no bodies then", x.count(4), 0);
        }
        due("an act bakes nothing", x.told(4), 0);
    }

    /** With x 5: the answer, then the bodies. */
    private static void acted(BakedBefore x, int loaf, int act, int[] want) {
        String call = "act(" + loaf + ", " + act + ", 5)";
        due(call, x.act(loaf, act, 5), want[0]);
        due(call + " count(4)", x.count(4), want.length - 1);
        for (int i = 1; i < want.length; i++) {
            due(call + " trace(" + (i - 1) + ")", x.trace(i - 1), want[i]);
        }
        due(call + " behind its trace", x.trace(want.length - 1), NONE);
    }

    private static void trace() {
        title = "promise 29";
        BakedBefore x = with(1, 0);
        due("ahead of any act", x.trace(0), NONE);
        x.act(0, 2, 0);
        due("trace(0)", x.trace(0), 12);
        due("trace(2)", x.trace(2), 10);
        due("trace(3)", x.trace(3), NONE);
        due("trace(-1)", x.trace(-1), NONE);
        due("trace(MAX)", x.trace(MAX), NONE);
        x.act(0, 0, 0);
        due("the latest act's", x.trace(0), 10);
        due("the latest act's alone", x.trace(1), NONE);
    }

    private static void taken() {
        title = "promise 30";
        // under whom each KIND is, itself with it
        int[][] under = {{0}, {1, 0}, {2, 0}, {3, 0}, {4, 1, 0}, {5, 2, 0}, {6, 3, 0}};
        for (int kind = 0; kind < 7; kind++) {
            BakedBefore x = with(0, kind);
            for (int k = 0; k < 7; k++) {
                int want = CAST;
                for (int up : under[kind]) {
                    if (up == k) {
                        want = kind;
                    }
                }
                due("KIND " + kind + " taken for " + k, x.taken(0, k), want);
            }
            due("taken(0, -1)", x.taken(0, -1), BAD);
            due("taken(1, 7)", x.taken(1, 7), BAD);
            due("taken(1, 0)", x.taken(1, 0), NOTHING);
            due("taken(-1, 6)", x.taken(-1, 6), NOTHING);
        }
    }

    private static void count() {
        title = "promise 31";
        BakedBefore x = with(0, 0, 6);
        kiln(x, "cold 1");
        kiln(x, "cold 2");
        kiln(x, "cold 3");
        x.book(-2, true);
        feed(x, "abcde");
        x.act(1, 2, 5);
        due("LOAVES", x.count(0), 2);
        due("KILNS", x.count(1), 3);
        due("rows", x.count(2), 1);
        due("bytes", x.count(3), 5);
        due("bodies", x.count(4), 12);
        due("count(5)", x.count(5), BAD);
        due("count(-1)", x.count(-1), BAD);
    }

    private static void tape() {
        title = "promise 32";
        BakedBefore x = new BakedBefore();
        for (int t = 0; t < 6; t++) {
            due("tape " + t, x.tape(t, t % 5, 60), 1);
            due("its last", x.read(t, 59), 0);
            due("behind its last", x.read(t, 60), NO);
        }
        due("tape(-1, ..)", x.tape(-1, 9, 99), NONE);
        due("tape(6, ..)", x.tape(6, 0, 1), NONE);
        due("tape(0, 5, 1)", x.tape(0, 5, 1), BAD);
        due("tape(0, -2, 1)", x.tape(0, -2, 1), BAD);
        due("tape(0, -2, -1)", x.tape(0, -2, -1), BAD);
        due("tape(0, 0, 61)", x.tape(0, 0, 61), BAD);
        due("tape(0, 0, -1)", x.tape(0, 0, -1), SIZE);
        due("tape(0, 4, MIN)", x.tape(0, 4, MIN), SIZE);
        x.item(0, 3, 7);
        due("what it was", x.read(0, 3), 7);
        due("anew", x.tape(0, 3, 4), 1);
        due("all 0", x.read(0, 3), 0);
        due("of none", x.tape(0, 3, 0), 1);
        due("no place", x.read(0, 0), NO);
        due("no place", x.item(0, 0, 1), PLACE);
        due("nothing, whatever n", x.tape(0, -1, 61), 1);
        due("nothing there", x.item(0, 0, 1), NOTHING);
        due("nothing, whatever n", x.tape(1, -1, -1), 1);
        due("nothing there", x.item(1, 0, 1), NOTHING);
    }

    private static void item() {
        title = "promise 33";
        long v = 0x123456789ABCDEF0L;
        long[] cut = {(byte) 0xF0, (short) 0xDEF0, (int) 0x9ABCDEF0L, v, 1};
        BakedBefore x = new BakedBefore();
        for (int sort = 0; sort < 5; sort++) {
            x.tape(sort, sort, 3);
            due("of sort " + sort, x.item(sort, 2, v), 1);
            due("of sort " + sort, x.read(sort, 2), cut[sort]);
            due("of sort " + sort, x.item(sort, 0, 0x100000000L), 1);
            due("of sort " + sort, x.read(sort, 0), sort < 3 ? 0 : sort == 3 ? 0x100000000L : 1);
            due("of sort " + sort, x.item(sort, 0, -1), 1);
            due("of sort " + sort, x.read(sort, 0), sort == 4 ? 1 : -1);
            due("of sort " + sort, x.item(sort, 0, 0), 1);
            due("of sort " + sort, x.read(sort, 0), 0);
            due("beside it", x.read(sort, 2), cut[sort]);
            due("at 3", x.item(sort, 3, 1), PLACE);
            due("at -1", x.item(sort, -1, 1), PLACE);
        }
        due("item(5, ..)", x.item(5, -1, 1), NOTHING);
        due("item(6, ..)", x.item(6, 0, 1), NONE);
        due("item(-1, ..)", x.item(-1, 0, 1), NONE);
    }

    private static void read() {
        title = "promise 34";
        BakedBefore x = new BakedBefore();
        x.tape(2, 3, 2);
        x.item(2, 1, Long.MAX_VALUE);
        due("read(2, 0)", x.read(2, 0), 0);
        due("read(2, 1)", x.read(2, 1), Long.MAX_VALUE);
        due("read(2, 2)", x.read(2, 2), NO);
        due("read(2, -1)", x.read(2, -1), NO);
        due("read(3, 0)", x.read(3, 0), NO);
        due("read(6, 0)", x.read(6, 0), NO);
        due("read(-1, 0)", x.read(-1, 0), NO);
    }

    private static void shift() {
        title = "promise 35";
        BakedBefore x = new BakedBefore();
        x.tape(0, 2, 6);
        x.tape(1, 2, 3);
        x.tape(2, 3, 6);
        for (int i = 0; i < 6; i++) {
            x.item(0, i, i + 1);
        }
        due("to another", x.shift(0, 3, 1, 1, 2), 2);
        row(x, 1, 0, 4, 5);
        row(x, 0, 1, 2, 3, 4, 5, 6);
        due("upward in the same", x.shift(0, 0, 0, 1, 5), 5);
        row(x, 0, 1, 1, 2, 3, 4, 5);
        due("downward in the same", x.shift(0, 2, 0, 0, 4), 4);
        row(x, 0, 2, 3, 4, 5, 4, 5);
        due("all of it", x.shift(0, 0, 0, 0, 6), 6);
        due("none", x.shift(0, 6, 1, 3, 0), 0);
        due("none from beyond", x.shift(0, 7, 1, 0, 0), PLACE);
        due("none to beyond", x.shift(0, 0, 1, 4, 0), PLACE);
        due("beyond the one's end", x.shift(1, 2, 0, 0, 2), PLACE);
        due("beyond the other's end", x.shift(0, 0, 1, 2, 2), PLACE);
        due("n below 0", x.shift(0, 0, 1, 0, -1), PLACE);
        due("i below 0", x.shift(0, -1, 1, 0, 1), PLACE);
        due("j below 0", x.shift(0, 0, 1, -1, 1), PLACE);
        due("far beyond", x.shift(0, MAX, 1, MAX, MAX), PLACE);
        due("far beyond", x.shift(0, 1, 1, 1, MAX), PLACE);
        due("n far below 0", x.shift(0, MAX, 1, 0, MIN), PLACE);
        due("of unlike sorts", x.shift(0, -1, 2, 0, 1), CAST);
        due("nothing in the other", x.shift(0, -1, 3, 0, 1), NOTHING);
        due("nothing in the one", x.shift(3, 0, 0, 0, 1), NOTHING);
        due("no such tape", x.shift(6, 0, 3, 0, 1), NONE);
        due("no such other", x.shift(3, 0, -1, 0, 1), NONE);
        row(x, 0, 2, 3, 4, 5, 4, 5);
        row(x, 1, 0, 4, 5);
    }

    private static void row(BakedBefore x, int tape, int... want) {
        for (int i = 0; i < want.length; i++) {
            due("item " + i + " of tape " + tape, x.read(tape, i), want[i]);
        }
    }
}
