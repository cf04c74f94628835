import java.util.Random;

/** Runs of calls by lot (of fixed seeds) on the class and on the plain telling, answer by answer. */
public final class PlainTest {
    private static final int RUNS = 1000, CALLS = 512;
    private static final Check check = new Check();

    private final Random lot;
    private final BakedBefore x = new BakedBefore();
    private final Plain plain = new Plain();
    private final int run;
    private int calls;

    private PlainTest(int run) {
        this.run = run;
        lot = new Random(run);
    }

    public static void main(String[] args) {
        for (int run = 0; run < RUNS && check.wrong() == 0; run++) {
            new PlainTest(run).play();
        }
        check.close();
    }

    private void due(String call, long got, long want) {
        calls++;
        check.same("run " + run + ", call " + calls + ": " + call, got, want);
    }

    private int upTo(int n) {
        return lot.nextInt(n + 1);
    }

    /** Mostly 0 .. most, at times just outside, seldom far outside. */
    private int around(int most) {
        int by = lot.nextInt(40);
        if (by == 0) {
            return -1 - upTo(2);
        }
        if (by == 1) {
            return most + 1 + upTo(2);
        }
        if (by == 2 && lot.nextInt(3) == 0) {
            return lot.nextBoolean() ? Integer.MAX_VALUE : Integer.MIN_VALUE;
        }
        return upTo(most);
    }

    private int heldByLot() {
        int[] most = {5, 40, 120, 1100, 9999};
        int n = upTo(most[upTo(4)]);
        return lot.nextInt(30) == 0 ? 10000 : lot.nextInt(30) == 0 ? 9999 - upTo(20) : n;
    }

    private void play() {
        int loaves = lot.nextInt(8);
        for (int i = 0; i < loaves; i++) {
            loaf();
        }
        for (int i = 0; i < loaves * 6; i++) {
            set();
        }
        if (lot.nextInt(5) > 0) {
            text(8 + upTo(90));
        }
        while (calls < CALLS - 110) {
            call(lot.nextInt(100));
        }
    }

    private void call(int by) {
        if (by < 2) {
            loaf();
        } else if (by < 8) {
            set();
        } else if (by < 14) {
            int t = around(3);
            int n = heldByLot();
            due("oven(" + t + ", " + n + ")", x.oven(t, n), plain.oven(t, n));
        } else if (by < 15) {
            text(upTo(100));
        } else if (by < 22) {
            change(by);
        } else if (by < 32) {
            int l = around(5);
            int what = 10 * upTo(4) + around(3);
            due("of(" + l + ", " + what + ")", x.of(l, what), plain.of(l, what));
        } else if (by < 70) {
            ask(by);
        } else if (by < 80) {
            acts();
        } else {
            tapes(by);
        }
    }

    private void loaf() {
        int kind = around(6);
        int v = around(9);
        due("loaf(" + kind + ", " + v + ")", x.loaf(kind, v), plain.loaf(kind, v));
    }

    private void set() {
        int l = around(5);
        int t = around(3);
        int what = around(1);
        int n = around(99);
        due("set(" + l + ", " + t + ", " + what + ", " + n + ")", x.set(l, t, what, n), plain.set(l, t, what, n));
    }

    private void change(int by) {
        int l = around(5);
        boolean spoiled = lot.nextInt(3) == 0;
        switch (by) {
            case 15: case 16:
                due("bake(" + l + ")", x.bake(l), plain.bake(l));
                break;
            case 17:
                due("cold()", x.cold(), plain.cold());
                break;
            case 18: case 19:
                int row = lot.nextInt(5) == 0 ? -2 : lot.nextInt(20) == 0 ? -1 : l;
                due("book(" + row + ", " + spoiled + ")", x.book(row, spoiled), plain.book(row, spoiled));
                break;
            case 20:
                due("image()", x.image(), plain.image());
                break;
            default:
                due("undo()", x.undo(), plain.undo());
                break;
        }
    }

    private void ask(int by) {
        int l = around(5);
        int t = around(3);
        int part = around(1);
        int set = lot.nextInt(20) == 0 ? lot.nextInt() : upTo(lot.nextInt(3) == 0 ? 63 : 31);
        int k = around(6) - 1;
        switch (by % 16) {
            case 0:
                int other = around(6) - 1;
                int what = around(4);
                due("would(" + l + ", " + other + ", " + what + ")", x.would(l, other, what), plain.would(l, other, what));
                break;
            case 1: case 2:
                due("order(" + set + ", " + k + ")", x.order(set, k), plain.order(set, k));
                break;
            case 3: case 4:
                due("colds(" + set + ", " + k + ")", x.colds(set, k), plain.colds(set, k));
                break;
            case 5:
                due("place(" + l + ", " + part + ")", x.place(l, part), plain.place(l, part));
                break;
            case 6:
                due("guilty(" + l + ")", x.guilty(l), plain.guilty(l));
                break;
            case 7:
                due("two(" + part + ")", x.two(part), plain.two(part));
                break;
            case 8:
                due("has(" + l + ")", x.has(l), plain.has(l));
                break;
            case 9:
                due("swaps(" + l + ")", x.swaps(l), plain.swaps(l));
                break;
            case 10:
                span(l, t, part);
                break;
            case 11:
                int n = around(60);
                int f = 2 + around(28);
                int w = around(4);
                due("year(" + n + ", " + f + ", " + w + ")", x.year(n, f, w), plain.year(n, f, w));
                break;
            case 12:
                due("odds(" + l + ", " + part + ")", x.odds(l, part), plain.odds(l, part));
                break;
            case 13:
                due("mean(" + t + ", " + part + ")", x.mean(t, part), plain.mean(t, part));
                break;
            case 14:
                due("looked()", x.looked(), plain.looked());
                break;
            default:
                int told = around(5);
                due("told(" + told + ")", x.told(told), plain.told(told));
                break;
        }
    }

    private void span(int l, int t, int part) {
        // each costs the plain telling 10000 looks
        if (lot.nextInt(3) > 0) {
            return;
        }
        int took = lot.nextBoolean() ? heldByLot() : Math.max(-1, plain.of(l, 30 + upTo(3)));
        due("span(" + l + ", " + t + ", " + took + ", " + part + ")", x.span(l, t, took, part), plain.span(l, t, took, part));
    }

    private void acts() {
        int l = around(5);
        int act = around(2);
        int n = lot.nextBoolean() ? lot.nextInt() : upTo(20);
        due("act(" + l + ", " + act + ", " + n + ")", x.act(l, act, n), plain.act(l, act, n));
        for (int i = 0; i < 3; i++) {
            int at = around(12);
            due("trace(" + at + ")", x.trace(at), plain.trace(at));
        }
        int what = around(4);
        due("count(" + what + ")", x.count(what), plain.count(what));
        int k = around(6);
        due("taken(" + l + ", " + k + ")", x.taken(l, k), plain.taken(l, k));
    }

    private void tapes(int by) {
        int a = around(5);
        int b = lot.nextInt(3) == 0 ? a : around(5);
        int i = lot.nextBoolean() ? around(8) : around(59);
        if (by < 83) {
            int sort = lot.nextInt(3) == 0 ? 1 : around(5) - 1;
            int n = lot.nextBoolean() ? around(10) : around(60);
            due("tape(" + a + ", " + sort + ", " + n + ")", x.tape(a, sort, n), plain.tape(a, sort, n));
        } else if (by < 88) {
            long v = lot.nextInt(4) == 0 ? lot.nextLong() : lot.nextInt(3);
            due("item(" + a + ", " + i + ", " + v + ")", x.item(a, i, v), plain.item(a, i, v));
        } else if (by < 90) {
            int at = upTo(6);
            for (int t = 0; t < 1 + upTo(3); t++) {
                due("item", x.item(a, at + t, plain.told(t)), plain.item(a, at + t, plain.told(t)));
            }
            due("judge(" + a + ", " + at + ")", x.judge(a, at), plain.judge(a, at));
        } else if (by < 94) {
            due("read(" + a + ", " + i + ")", x.read(a, i), plain.read(a, i));
        } else if (by < 97) {
            due("judge(" + a + ", " + i + ")", x.judge(a, i), plain.judge(a, i));
        } else {
            int j = around(8);
            int n = around(8);
            due("shift(" + a + ", " + i + ", " + b + ", " + j + ", " + n + ")",
                x.shift(a, i, b, j, n), plain.shift(a, i, b, j, n));
        }
    }

    /** Feeds a TEXT by lot, about so long, at times with a byte that is otherwise, and reads it. */
    private void text(int about) {
        StringBuilder text = new StringBuilder();
        int clauses = 1 + (lot.nextInt(12) == 0 ? 10 : upTo(5));
        for (int i = 0; i < clauses && text.length() < about; i++) {
            if (i > 0) {
                text.append(';');
            }
            String[] words = {"take ", "take ", "more ", "cold ", "fee "};
            String word = clauses > 9 ? "cold " : words[upTo(4)];
            text.append(word).append(lot.nextInt(4) == 0 ? upTo(9) : upTo(99));
            if (!word.equals("cold ")) {
                text.append(' ').append(either(0, lot.nextInt(3)));
            }
        }
        for (int faults = lot.nextInt(3) == 0 ? 1 + upTo(1) : 0; faults > 0 && text.length() > 0; faults--) {
            int at = upTo(text.length() - 1);
            String signs = "take ormclf 0123456789()!&|;<=>tkvho\u0000\u007f";
            char sign = signs.charAt(upTo(signs.length() - 1));
            switch (lot.nextInt(3)) {
                case 0: text.setCharAt(at, sign); break;
                case 1: text.insert(at, sign); break;
                default: text.deleteCharAt(at); break;
            }
        }
        for (int i = 0; i < text.length() && i < 102; i++) {
            char sign = text.charAt(i);
            due("feed(" + (int) sign + ")", x.feed(sign), plain.feed(sign));
        }
        if (lot.nextInt(12) > 0) {
            due("kiln() of " + text, x.kiln(), plain.kiln());
        }
    }

    private String either(int depth, int more) {
        StringBuilder e = new StringBuilder(part(depth));
        for (int i = 0; i < more; i++) {
            e.append(lot.nextBoolean() ? '&' : '|').append(part(depth));
        }
        return e.toString();
    }

    private String part(int depth) {
        int by = lot.nextInt(6);
        boolean deeper = depth < 4 || lot.nextInt(20) == 0;
        if (by == 0 && deeper) {
            return "!" + part(depth + 1);
        }
        if (by == 1 && deeper) {
            return "(" + either(depth + 1, upTo(1)) + ")";
        }
        char letter = "lktvho".charAt(upTo(5));
        int[] most = {5, 6, 3, 9, 59, 99};
        int n = upTo(lot.nextInt(4) == 0 ? 99 : lot.nextBoolean() ? 9 : most["lktvho".indexOf(letter)]);
        return "" + letter + "<=>".charAt(upTo(2)) + n;
    }
}
