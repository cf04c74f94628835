import java.util.ArrayList;
import java.util.HashMap;
import java.util.HashSet;
import java.util.List;
import java.util.Map;
import java.util.Set;

/**
 * The document told once more, in the plainest way: what would be is found by copying all and doing
 * it, every choice is tried, and THE TEXT is read by its grammar's own lines.
 */
final class Plain {
    private static final int NONE = -1, BAD = -2, STATE = -3, FULL = -4, ABSENT = -5;
    private static final int NOTHING = -11, CAST = -12, PLACE = -13, SIZE = -14;
    private static final long NO = Long.MIN_VALUE;
    private static final int[] ABOVE = {-1, 0, 0, 0, 1, 2, 3};
    private static final Map<String, String[][]> PARTS = new HashMap<>();

    private static final class Bread {
        int kind;
        int v;
        int[] gives = new int[4];
        int[] bears = {9, 9, 9, 9};

        Bread copy() {
            Bread b = new Bread();
            b.kind = kind;
            b.v = v;
            b.gives = gives.clone();
            b.bears = bears.clone();
            return b;
        }
    }

    /** All that THE IMAGE holds. */
    private static final class World {
        int[] held = new int[4];
        int hour;
        List<Bread> loaves = new ArrayList<>();
        List<int[]> book = new ArrayList<>();
        String kiln = "";

        World copy() {
            World w = new World();
            w.held = held.clone();
            w.hour = hour;
            for (Bread b : loaves) {
                w.loaves.add(b.copy());
            }
            w.book.addAll(book);
            w.kiln = kiln;
            return w;
        }

        /** Each clause of the KILN that holds as its parts; split but once, as it is looked at so often. */
        String[][] clauses() {
            return PARTS.computeIfAbsent(kiln, World::split);
        }

        static String[][] split(String text) {
            String[] clauses = text.isEmpty() ? new String[0] : text.split(";");
            String[][] parts = new String[clauses.length][];
            for (int i = 0; i < clauses.length; i++) {
                parts[i] = clauses[i].split(" ");
            }
            return parts;
        }

        /** The n of all clauses of the word whose E holds; -1 without any clause of the word. */
        int together(String word, int l, int t, int o) {
            int sum = 0;
            boolean any = false;
            for (String[] parts : clauses()) {
                if (parts[0].equals(word)) {
                    any = true;
                    if (holds(parts[2], l, t, o)) {
                        sum += Integer.parseInt(parts[1]);
                    }
                }
            }
            return any ? sum : -1;
        }

        boolean holds(String e, int l, int t, int o) {
            int or = topLevel(e, '|');
            if (or >= 0) {
                return holds(e.substring(0, or), l, t, o) | holds(e.substring(or + 1), l, t, o);
            }
            int and = topLevel(e, '&');
            if (and >= 0) {
                return holds(e.substring(0, and), l, t, o) & holds(e.substring(and + 1), l, t, o);
            }
            if (e.charAt(0) == '!') {
                return !holds(e.substring(1), l, t, o);
            }
            if (e.charAt(0) == '(') {
                return holds(e.substring(1, e.length() - 1), l, t, o);
            }
            int number = Integer.parseInt(e.substring(2));
            int value = 0;
            switch (e.charAt(0)) {
                case 'l': value = l; break;
                case 'k': value = loaves.get(l).kind; break;
                case 't': value = t; break;
                case 'v': value = loaves.get(l).v; break;
                case 'h': value = hour % 60; break;
                case 'o': value = o; break;
                default: throw new IllegalStateException(e);
            }
            char sign = e.charAt(1);
            return sign == '<' ? value < number : sign == '=' ? value == number : value > number;
        }

        static int topLevel(String e, char sign) {
            int depth = 0;
            for (int i = 0; i < e.length(); i++) {
                char c = e.charAt(i);
                depth += c == '(' ? 1 : c == ')' ? -1 : 0;
                if (depth == 0 && c == sign) {
                    return i;
                }
            }
            return -1;
        }

        int coldPart() {
            int n = 50;
            for (String[] parts : clauses()) {
                if (parts[0].equals("cold")) {
                    n = Integer.parseInt(parts[1]);
                }
            }
            return n;
        }

        int fee(int l) {
            return 1 + Math.max(0, together("fee", l, 99, 99));
        }

        int takes(int l, int t) {
            Bread b = loaves.get(l);
            int part = together("take", l, t, held[t] / 10);
            int loaf = (part < 0 ? 50 : part) * held[t] / 100;
            int holy = Math.min(loaf, b.bears[t]);
            int[] byKind = {loaf, held[t], 2 * loaf, holy, held[t] - b.v, 2 * loaf, holy / 2};
            return Math.max(0, Math.min(held[t], byKind[b.kind]));
        }

        int takesAll(int l) {
            return takes(l, 0) + takes(l, 1) + takes(l, 2) + takes(l, 3);
        }

        int leaves(int l, int t) {
            Bread b = loaves.get(l);
            int both = b.gives[t] + Math.max(0, together("more", l, t, held[t] / 10));
            int[] byKind = {both, 0, both, both, 0, both + (t == 0 ? b.v : 0), both / 2};
            return byKind[b.kind];
        }

        int spoiled(int l) {
            for (int t = 0; t < 4; t++) {
                if (takes(l, t) > loaves.get(l).bears[t]) {
                    return 1;
                }
            }
            return 0;
        }

        int bake(int l) {
            int spoiled = spoiled(l);
            int[] then = new int[4];
            for (int t = 0; t < 4; t++) {
                then[t] = Math.min(9999, held[t] - takes(l, t) + leaves(l, t));
            }
            held = then;
            hour = Math.min(9999, hour + 1);
            return spoiled;
        }

        void cold() {
            int n = coldPart();
            for (int t = 0; t < 4; t++) {
                held[t] = Math.min(9999, held[t] * n / 100);
            }
            hour = Math.min(9999, hour + 1);
        }
    }

    private World now = new World();
    private World kept;
    private String text = "";
    private final List<String> kilns = new ArrayList<>();
    private final List<Integer> ran = new ArrayList<>();
    private final int[] sorts = {-1, -1, -1, -1, -1, -1};
    private final long[][] rows = new long[6][];

    private boolean isLoaf(int l) {
        return 0 <= l && l < now.loaves.size();
    }

    private static boolean in(int n, int least, int most) {
        return least <= n && n <= most;
    }

    int loaf(int kind, int v) {
        if (!in(kind, 0, 6)) return NONE;
        if (!in(v, 0, 9)) return BAD;
        if (now.loaves.size() == 6) return FULL;
        Bread b = new Bread();
        b.kind = kind;
        b.v = v;
        now.loaves.add(b);
        return now.loaves.size() - 1;
    }

    int set(int l, int t, int what, int n) {
        if (!isLoaf(l) || !in(t, 0, 3) || !in(what, 0, 1)) return NONE;
        if (!in(n, 0, 99)) return BAD;
        Bread b = now.loaves.get(l);
        int was = what == 0 ? b.gives[t] : b.bears[t];
        if (what == 0) b.gives[t] = n; else b.bears[t] = n;
        return was;
    }

    int of(int l, int what) {
        if (!isLoaf(l)) return NONE;
        Bread b = now.loaves.get(l);
        if (what == 0) return b.kind;
        if (what == 1) return b.v;
        if (what == 2) return now.fee(l);
        if (what == 3) return now.spoiled(l);
        if (in(what, 10, 13)) return b.gives[what - 10];
        if (in(what, 20, 23)) return b.bears[what - 20];
        if (in(what, 30, 33)) return now.takes(l, what - 30);
        if (in(what, 40, 43)) return now.leaves(l, what - 40);
        return NONE;
    }

    int oven(int t, int n) {
        if (!in(t, 0, 3)) return NONE;
        if (!in(n, 0, 9999)) return BAD;
        int was = now.held[t];
        now.held[t] = n;
        return was;
    }

    int feed(int sign) {
        if (!in(sign, 0, 127)) return BAD;
        if (text.length() == 100) return FULL;
        text += (char) sign;
        return text.length();
    }

    int kiln() {
        if (kilns.size() == 6) return FULL;
        String read = text;
        text = "";
        int fault = fault(read);
        if (fault >= 0) return -10 - fault;
        kilns.add(read);
        now.kiln = read;
        return kilns.size() - 1;
    }

    // The grammar as the document has it. What is still to come is a row of signs, and these above
    // 255 stand for its parts; the four lowest bits are how many ( and ! are around, or CLAUSES left.
    private static final char CLAUSES = 0x100, CLAUSE = 0x110, E = 0x120, T = 0x130, F = 0x140;
    private static final char N = 0x150, DIGIT = 0x160, LETTER = 0x170, SIGN = 0x180;

    static int fault(String text) {
        Set<String> open = new HashSet<>();
        expand("" + (char) (CLAUSES + 10), open);
        for (int i = 0; i < text.length(); i++) {
            Set<String> next = new HashSet<>();
            for (String rest : open) {
                if (!rest.isEmpty() && stands(rest.charAt(0), text.charAt(i))) {
                    expand(rest.substring(1), next);
                }
            }
            if (next.isEmpty()) {
                return i;
            }
            open = next;
        }
        return open.contains("") ? -1 : text.length();
    }

    private static boolean stands(char part, char c) {
        switch (part) {
            case DIGIT: return '0' <= c && c <= '9';
            case LETTER: return "lktvho".indexOf(c) >= 0;
            case SIGN: return c == '<' || c == '=' || c == '>';
            default: return part == c;
        }
    }

    private static void expand(String row, Set<String> into) {
        if (row.isEmpty() || row.charAt(0) < 0x100 || row.charAt(0) >= DIGIT) {
            into.add(row);
            return;
        }
        String rest = row.substring(1);
        int n = row.charAt(0) & 15;
        char deeper = (char) (n + 1);
        String e = "" + (char) (E + n);
        String t = "" + (char) (T + n);
        String f = "" + (char) (F + n);
        switch ((char) (row.charAt(0) - n)) {
            case CLAUSES:
                expand(CLAUSE + rest, into);
                if (n > 1) expand(CLAUSE + ";" + (char) (CLAUSES + n - 1) + rest, into);
                break;
            case CLAUSE:
                expand("take " + N + " " + E + rest, into);
                expand("more " + N + " " + E + rest, into);
                expand("cold " + N + rest, into);
                expand("fee " + N + " " + E + rest, into);
                break;
            case E:
                expand(t + rest, into);
                expand(t + "|" + e + rest, into);
                break;
            case T:
                expand(f + rest, into);
                expand(f + "&" + t + rest, into);
                break;
            case F:
                if (n < 4) {
                    expand("!" + (char) (F + deeper) + rest, into);
                    expand("(" + (char) (E + deeper) + ")" + rest, into);
                }
                expand("" + LETTER + SIGN + N + rest, into);
                break;
            default:
                expand(DIGIT + rest, into);
                expand("" + DIGIT + DIGIT + rest, into);
                break;
        }
    }

    int told(int what) {
        if (in(what, 0, 3)) return now.held[what];
        return what == 4 ? now.hour : what == 5 ? now.coldPart() : NONE;
    }

    int bake(int l) {
        return isLoaf(l) ? now.bake(l) : NONE;
    }

    int cold() {
        now.cold();
        return now.hour;
    }

    int would(int l, int other, int what) {
        if (!isLoaf(l) || !(other == -1 || isLoaf(other)) || !in(what, 0, 4)) return NONE;
        if (l == other) return BAD;
        World w = now.copy();
        if (other >= 0) w.bake(other);
        return what < 4 ? w.takes(l, what) : w.spoiled(l);
    }

    private List<Integer> members(int set) {
        List<Integer> in = new ArrayList<>();
        for (int i = 0; i < 32; i++) {
            if ((set >>> i & 1) == 1) in.add(i);
        }
        return in;
    }

    private boolean isSet(int set, int most) {
        List<Integer> in = members(set);
        for (int l : in) {
            if (!isLoaf(l)) return false;
        }
        return in.size() <= most;
    }

    int order(int set, int k) {
        if (!in(k, -1, 5)) return NONE;
        if (!isSet(set, 5)) return BAD;
        List<List<Integer>> all = new ArrayList<>();
        permute(new ArrayList<>(), members(set), all);
        List<Integer> best = null;
        int fewest = 0;
        for (List<Integer> row : all) {
            World w = now.copy();
            int spoiled = 0;
            for (int l : row) spoiled += w.bake(l);
            if (best == null || spoiled < fewest) {
                best = row;
                fewest = spoiled;
            }
        }
        return k < 0 ? fewest : k < best.size() ? best.get(k) : ABSENT;
    }

    private static void permute(List<Integer> done, List<Integer> left, List<List<Integer>> all) {
        if (left.isEmpty()) {
            all.add(new ArrayList<>(done));
        }
        for (Integer l : left) {
            List<Integer> rest = new ArrayList<>(left);
            rest.remove(l);
            done.add(l);
            permute(done, rest, all);
            done.remove(done.size() - 1);
        }
    }

    int colds(int set, int k) {
        if (!in(k, -1, 5)) return NONE;
        if (!isSet(set, 4)) return BAD;
        List<Integer> in = members(set);
        int ways = 1;
        for (int i = 0; i < in.size(); i++) ways *= 5;
        int[] best = null;
        int fewest = 0;
        for (int way = 0; way < ways; way++) {
            int[] row = new int[in.size()];
            int sum = 0;
            for (int i = in.size() - 1, rest = way; i >= 0; i--, rest /= 5) {
                row[i] = rest % 5;
                sum += row[i];
            }
            World w = now.copy();
            int spoiled = 0;
            for (int i = 0; i < in.size(); i++) {
                for (int c = 0; c < row[i]; c++) w.cold();
                spoiled += w.bake(in.get(i));
            }
            if (spoiled == 0 && (best == null || sum < fewest)) {
                best = row;
                fewest = sum;
            }
        }
        if (best == null) return ABSENT;
        return k < 0 ? fewest : k < best.length ? best[k] : ABSENT;
    }

    int place(int l, int what) {
        if (!isLoaf(l) || !in(what, 0, 1)) return NONE;
        List<Integer> others = new ArrayList<>();
        for (int i = 0; i < now.loaves.size(); i++) {
            if (i != l) others.add(i);
        }
        int best = -1;
        int least = 0;
        for (int k = 0; k <= others.size(); k++) {
            World w = now.copy();
            for (int i = 0; i < k; i++) w.bake(others.get(i));
            if (best < 0 || w.takesAll(l) < least) {
                best = k;
                least = w.takesAll(l);
            }
        }
        return what == 0 ? best : least;
    }

    int guilty(int l) {
        if (!isLoaf(l)) return NONE;
        int bits = 0;
        for (int out = 0; out < l; out++) {
            if (spoiledWithout(l, -1) == 1 && spoiledWithout(l, out) == 0) bits += 1 << out;
        }
        return bits;
    }

    private int spoiledWithout(int l, int out) {
        World w = now.copy();
        int spoiled = 0;
        for (int i = 0; i < w.loaves.size(); i++) {
            if (i != out) {
                int so = w.bake(i);
                if (i == l) spoiled = so;
            }
        }
        return spoiled;
    }

    int two(int what) {
        if (!in(what, 0, 1)) return NONE;
        int best = -1;
        int fewest = 0;
        for (int set = 0; set < 1 << now.loaves.size(); set++) {
            World first = now.copy();
            World second = now.copy();
            int spoiled = 0;
            for (int i = 0; i < now.loaves.size(); i++) {
                spoiled += (set & 1 << i) != 0 ? first.bake(i) : second.bake(i);
            }
            if (best < 0 || spoiled < fewest) {
                best = set;
                fewest = spoiled;
            }
        }
        return what == 0 ? fewest : best;
    }

    int has(int l) {
        if (!isLoaf(l)) return -100001;
        int[] purse = new int[now.loaves.size()];
        for (int i = 0; i + 1 < purse.length; i++) {
            World w = now.copy();
            w.bake(i);
            int from = i;
            int to = i + 1;
            int fee = now.fee(i + 1);
            if (w.takesAll(i + 1) < now.takesAll(i + 1)) {
                from = i + 1;
                to = i;
                fee = now.fee(i);
            }
            purse[from] -= fee;
            purse[to] += fee;
        }
        return purse[l];
    }

    int swaps(int l) {
        if (!isLoaf(l) || !isLoaf(l + 1)) return NONE;
        int[] before = new int[now.loaves.size()];
        int[] after = new int[now.loaves.size()];
        World a = now.copy();
        World b = now.copy();
        for (int i = 0; i < before.length; i++) {
            before[i] = a.takesAll(i);
            a.bake(i);
            int other = i == l ? l + 1 : i == l + 1 ? l : i;
            after[other] = b.takesAll(other);
            b.bake(other);
        }
        boolean noMore = after[l] <= before[l] && after[l + 1] <= before[l + 1];
        boolean less = after[l] < before[l] || after[l + 1] < before[l + 1];
        return noMore && less ? 1 : 0;
    }

    int span(int l, int t, int took, int what) {
        if (!isLoaf(l) || !in(t, 0, 3) || !in(what, 0, 1)) return NONE;
        if (!in(took, 0, 9999)) return BAD;
        World w = now.copy();
        int found = ABSENT;
        for (int held = 0; held <= 9999; held++) {
            w.held[t] = held;
            if (w.takes(l, t) == took && (found == ABSENT || what == 1)) found = held;
        }
        return found;
    }

    int year(int n, int f, int what) {
        if (!in(what, 0, 4)) return -100001;
        if (!in(n, 0, 60) || !in(f, 2, 30)) return -100002;
        if (now.loaves.isEmpty()) return -100003;
        World w = now.copy();
        int baked = 0;
        int spoiled = 0;
        for (int i = 0; i < n; i++) {
            if (w.hour % f == 0) {
                w.cold();
            } else {
                spoiled += w.bake(baked++ % w.loaves.size());
            }
        }
        return what < 4 ? w.held[what] : spoiled;
    }

    long odds(int l, int part) {
        int others = now.loaves.size() - 1;
        if (!isLoaf(l) || others == 0 || !in(part, 0, 1)) return NO;
        int spoiled = 0;
        for (int i = 0; i <= others; i++) {
            if (i != l) {
                World w = now.copy();
                w.bake(i);
                spoiled += w.spoiled(l);
            }
        }
        return (part == 0 ? spoiled : others) / divisor(spoiled, others);
    }

    long mean(int t, int part) {
        if (!in(t, 0, 3) || now.loaves.isEmpty() || !in(part, 0, 1)) return NO;
        int sum = 0;
        for (int l = 0; l < now.loaves.size(); l++) sum += now.takes(l, t);
        return (part == 0 ? sum : now.loaves.size()) / divisor(sum, now.loaves.size());
    }

    private static int divisor(int a, int b) {
        return b == 0 ? a : divisor(b, a % b);
    }

    int book(int l, boolean spoiled) {
        if (l == -1) {
            now.book.clear();
            return 0;
        }
        if (l != -2 && !isLoaf(l)) return NONE;
        if (now.book.size() == 12) return FULL;
        now.book.add(new int[] {l, spoiled ? 1 : 0});
        return now.book.size();
    }

    int looked() {
        World w = now.copy();
        for (int i = 0; i < w.book.size(); i++) {
            int l = w.book.get(i)[0];
            int spoiled = 0;
            if (l == -2) w.cold(); else spoiled = w.bake(l);
            if (spoiled != w.book.get(i)[1]) return i;
        }
        return ABSENT;
    }

    int judge(int tape, int i) {
        if (!in(tape, 0, 5)) return NONE;
        if (sorts[tape] == -1) return 100;
        if (sorts[tape] != 1) return CAST;
        if (i < 0) return 100;
        for (int t = 0; t < 4; t++) {
            if ((long) i + t >= rows[tape].length) return 100 + t;
            if (rows[tape][i + t] != now.held[t]) return t;
        }
        return ABSENT;
    }

    int image() {
        kept = now.copy();
        return kept.loaves.size();
    }

    int undo() {
        if (kept == null) return STATE;
        now = kept.copy();
        return now.loaves.size();
    }

    int act(int l, int act, int x) {
        ran.clear();
        if (!isLoaf(l) || !in(act, 0, 2)) return 0;
        int k = now.loaves.get(l).kind;
        return act == 0 ? rises(l, k, x) : act == 1 ? bakes(l, k, x) : tells(l, k, x);
    }

    private int rises(int l, int kind, int x) {
        int v = now.loaves.get(l).v;
        switch (kind) {
            case 0: ran.add(10); return x + l;
            case 2: ran.add(30); return rises(l, 0, x * 3);
            case 4: ran.add(50); return -rises(l, 1, x);
            case 6: ran.add(71); return rises(l, 3, x) ^ v;
            default: return rises(l, ABOVE[kind], x);
        }
    }

    private int bakes(int l, int kind, int x) {
        Bread b = now.loaves.get(l);
        switch (kind) {
            case 0: ran.add(11); return rises(l, b.kind, x) - b.v;
            case 1: ran.add(20); return bakes(l, 0, x) ^ 6;
            case 4: ran.add(51); return bakes(l, 1, x + 1);
            case 6: ran.add(70); return bakes(l, 3, x) + rises(l, 3, 2);
            default: return bakes(l, ABOVE[kind], x);
        }
    }

    private int tells(int l, int kind, int x) {
        int own = now.loaves.get(l).kind;
        switch (kind) {
            case 0: ran.add(12); return bakes(l, own, x) * 2;
            case 3: ran.add(40); return tells(l, 0, x) + bakes(l, own, 1);
            case 5: ran.add(60); return tells(l, 2, x - l);
            default: return tells(l, ABOVE[kind], x);
        }
    }

    int trace(int i) {
        return in(i, 0, Math.min(20, ran.size()) - 1) ? ran.get(i) : NONE;
    }

    int taken(int l, int k) {
        if (!in(k, 0, 6)) return BAD;
        if (!isLoaf(l)) return NOTHING;
        int own = now.loaves.get(l).kind;
        for (int up = own; up >= 0; up = ABOVE[up]) {
            if (up == k) return own;
        }
        return CAST;
    }

    int count(int what) {
        int[] counts = {now.loaves.size(), kilns.size(), now.book.size(), text.length(), ran.size()};
        return in(what, 0, 4) ? counts[what] : BAD;
    }

    int tape(int tape, int sort, int n) {
        if (!in(tape, 0, 5)) return NONE;
        if (sort == -1) {
            sorts[tape] = -1;
            return 1;
        }
        if (!in(sort, 0, 4) || n > 60) return BAD;
        if (n < 0) return SIZE;
        sorts[tape] = sort;
        rows[tape] = new long[n];
        return 1;
    }

    int item(int tape, int i, long v) {
        if (!in(tape, 0, 5)) return NONE;
        if (sorts[tape] == -1) return NOTHING;
        if (!in(i, 0, rows[tape].length - 1)) return PLACE;
        long[] cut = {(byte) v, (short) v, (int) v, v, v == 0 ? 0 : 1};
        rows[tape][i] = cut[sorts[tape]];
        return 1;
    }

    long read(int tape, int i) {
        if (!in(tape, 0, 5) || sorts[tape] == -1 || !in(i, 0, rows[tape].length - 1)) return NO;
        return rows[tape][i];
    }

    int shift(int tape, int i, int other, int j, int n) {
        if (!in(tape, 0, 5) || !in(other, 0, 5)) return NONE;
        if (sorts[tape] == -1 || sorts[other] == -1) return NOTHING;
        if (sorts[tape] != sorts[other]) return CAST;
        if (n < 0 || i < 0 || j < 0 || (long) i + n > rows[tape].length || (long) j + n > rows[other].length) {
            return PLACE;
        }
        long[] were = rows[tape].clone();
        for (int at = 0; at < n; at++) rows[other][j + at] = were[i + at];
        return n;
    }
}
