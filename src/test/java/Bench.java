/** What the tests of the promises share: the document's answers by name, and objects made for a case. */
abstract class Bench {
    static final int NONE = -1, BAD = -2, STATE = -3, FULL = -4, ABSENT = -5;
    static final int NOTHING = -11, CAST = -12, PLACE = -13, SIZE = -14;
    static final long NO = Long.MIN_VALUE;
    static final int MAX = Integer.MAX_VALUE, MIN = Integer.MIN_VALUE;
    static final int LOAF = 0, CLEAN = 1, GREEDY = 2, HOLY = 3, RYE = 4, POISONED = 5, SHY = 6;
    static final int BYTES = 0, SHORTS = 1, INTS = 2, LONGS = 3, BOOLEANS = 4;

    static final Check check = new Check();
    static String title = "";

    static void due(String call, long got, long want) {
        check.same(title + ": " + call, got, want);
    }

    /** An object with LOAVES of these KINDS, each with the same v. */
    static BakedBefore with(int v, int... kinds) {
        BakedBefore x = new BakedBefore();
        for (int kind : kinds) {
            x.loaf(kind, v);
        }
        return x;
    }

    /** An object with LOAVES of KIND 0, each with v 0. */
    static BakedBefore loaves(int many) {
        return with(0, new int[many]);
    }

    static void feed(BakedBefore x, String text) {
        for (int i = 0; i < text.length(); i++) {
            x.feed(text.charAt(i));
        }
    }

    static int kiln(BakedBefore x, String text) {
        feed(x, text);
        return x.kiln();
    }

    /** THE OVEN holds so much of each TASTE. */
    static void hold(BakedBefore x, int n) {
        for (int t = 0; t < 4; t++) {
            x.oven(t, n);
        }
    }

    static void gives(BakedBefore x, int loaf, int n) {
        x.set(loaf, 0, 0, n);
    }

    static void bears(BakedBefore x, int loaf, int n) {
        x.set(loaf, 0, 1, n);
    }
}
