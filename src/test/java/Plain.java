import java.util.ArrayList;
import java.util.Arrays;
import java.util.HashMap;
import java.util.List;
import java.util.Map;

/**
 * The document again, by trying all and by acting it out, for AgainstPlainTest:
 * slow, with lists, and with no thought shared with the class that it judges.
 */
final class Plain {
    static final int NONE = -1, BAD = -2, NOT = -3, FULL = -4;
    private final List<List<Integer>> texts = List.of(new ArrayList<>(), new ArrayList<>(), new ArrayList<>());
    private final int[][] traits = new int[3][10];
    private final int[] settings = {10, 1, 2, 1};
    private final List<int[]> told = new ArrayList<>();
    private final Object[] sheets = new Object[4];
    private int latest = 0;

    private static long longBad() {
        return Long.MIN_VALUE + 2;
    }

    // ---- texts

    private List<Integer> comers() {
        return fault(0) == NONE ? guestsOf(0) : List.of();
    }

    private List<Integer> goers() {
        return fault(1) == NONE ? guestsOf(1) : List.of();
    }

    private List<Integer> worn() {
        return fault(2) == NONE ? guestsOf(2) : List.of();
    }

    private List<Integer> guestsOf(int text) {
        List<Integer> guests = new ArrayList<>();
        for (int b : texts.get(text)) {
            guests.add("abcdefghij".indexOf((char) b));
        }
        return guests;
    }

    int type(int text, int b) {
        if (text < 0 || text > 2 || b < 0 || b > 255) return BAD;
        if (texts.get(text).size() == 10) return FULL;
        texts.get(text).add(b);
        return texts.get(text).size();
    }

    int wipe(int text) {
        if (text < 0 || text > 2) return BAD;
        int had = texts.get(text).size();
        texts.get(text).clear();
        return had;
    }

    int undo(int text) {
        if (text < 0 || text > 2) return BAD;
        List<Integer> t = texts.get(text);
        if (t.isEmpty()) return NOT;
        t.remove(t.size() - 1);
        return t.size();
    }

    int fault(int text) {
        if (text < 0 || text > 2) return BAD;
        List<Integer> all = guestsOf(text);
        List<Integer> may = text == 1 ? comers() : List.of(0, 1, 2, 3, 4, 5, 6, 7, 8, 9);
        for (int i = 0; i < all.size(); i++) {
            if (!may.contains(all.get(i)) || all.indexOf(all.get(i)) < i) return i;
        }
        if (text == 2) {
            for (int g = 0; g < all.size(); g++) {
                if (!all.contains(g)) return all.size();
            }
        }
        return NONE;
    }

    int guest(int g, int what, int v) {
        if (g < 0 || g > 9 || what < 0 || what > 2 || v < 0) return BAD;
        if (what == 0 && v > 9 || what == 1 && v > 3 || what == 2 && v > 99) return BAD;
        int was = traits[what][g];
        traits[what][g] = v;
        return was;
    }

    int set(int what, int v) {
        boolean ok = what == 0 && v >= 1 && v <= 10 || what == 1 && v >= 1 && v <= 9
                || what == 2 && v >= 1 && v <= 60 || what == 3 && v >= 0 && v <= 9;
        if (!ok) return BAD;
        int was = settings[what];
        settings[what] = v;
        return was;
    }

    int read(int s) {
        if (s < 0 || s > 3) return BAD;
        if (sheets[s] == null) return finding(1);
        int n = 0;
        while (n < 10 && n < length(s) && item(s, n) >= 0 && item(s, n) <= 9) {
            traits[0][n] = item(s, n);
            n++;
        }
        return n;
    }

    // ---- what lies where

    private List<List<Integer>> laid(int deep, int[] rowOf, List<Integer> comers, List<Integer> notLaid) {
        List<List<Integer>> rows = new ArrayList<>();
        for (int r = 0; r < 10; r++) rows.add(new ArrayList<>());
        for (int g : comers) {
            List<Integer> row = rows.get(rowOf[g]);
            if (row.size() < deep) row.add(g);
            else notLaid.add(g);
        }
        return rows;
    }

    private List<List<Integer>> laid() {
        return laid(settings[0], traits[0], comers(), new ArrayList<>());
    }

    /** Takes a guest's pair: how many are lifted; NOT where there is none. */
    private static int take(List<List<Integer>> rows, int g) {
        for (List<Integer> row : rows) {
            int at = row.indexOf(g);
            if (at >= 0) {
                row.remove(at);
                return row.size() - at;
            }
        }
        return NOT;
    }

    private static int takeAll(List<List<Integer>> rows, List<Integer> order) {
        int sum = 0;
        for (int g : order) sum += Math.max(0, take(rows, g));
        return sum;
    }

    int judged() {
        List<Integer> notLaid = new ArrayList<>();
        laid(settings[0], traits[0], comers(), notLaid);
        return notLaid.isEmpty() ? NONE : notLaid.get(0);
    }

    int lies(int k, int row, int i) {
        if (k < 0 || k > goers().size() || row < 0 || row > 9 || i < 0 || i > 9) return BAD;
        List<List<Integer>> rows = laid();
        takeAll(rows, goers().subList(0, k));
        return i < rows.get(row).size() ? rows.get(row).get(i) : NONE;
    }

    int lifted(int g) {
        if (g < -1 || g > 9) return BAD;
        List<List<Integer>> rows = laid();
        if (g == NONE) return takeAll(rows, goers());
        int at = goers().indexOf(g);
        if (at < 0) return NOT;
        takeAll(rows, goers().subList(0, at));
        return take(rows, g);
    }

    private List<Integer> allGo() {
        List<Integer> order = new ArrayList<>(goers());
        for (int g = 0; g < 10; g++) {
            if (comers().contains(g) && !order.contains(g)) order.add(g);
        }
        return order;
    }

    int rows(int g) {
        if (g < -1 || g > 9) return BAD;
        List<Integer> order = allGo();
        List<Integer> fronts = new ArrayList<>();
        int[] rowOf = new int[10];
        for (int c : comers()) {
            int chosen = -1;
            for (int r = 0; r < fronts.size(); r++) {
                int goes = order.indexOf(fronts.get(r));
                if (goes > order.indexOf(c) && (chosen < 0 || goes < order.indexOf(fronts.get(chosen)))) chosen = r;
            }
            if (chosen < 0) {
                chosen = fronts.size();
                fronts.add(c);
            }
            fronts.set(chosen, c);
            rowOf[c] = chosen;
        }
        if (takeAll(laid(10, rowOf, comers(), new ArrayList<>()), order) != 0) throw new IllegalStateException();
        if (g == NONE) return fronts.size();
        return comers().contains(g) ? rowOf[g] : NOT;
    }

    private List<Integer> proofs() {
        List<Integer> order = allGo();
        List<Integer> best = List.of();
        for (int set = 0; set < 1 << comers().size(); set++) {
            List<Integer> row = new ArrayList<>();
            boolean fine = true;
            for (int i = 0; i < comers().size(); i++) {
                if ((set >> i & 1) == 0) continue;
                int g = comers().get(i);
                if (!row.isEmpty()) fine &= order.indexOf(row.get(row.size() - 1)) < order.indexOf(g);
                row.add(g);
            }
            if (fine && (row.size() > best.size() || row.size() == best.size() && less(row, best))) best = row;
        }
        return best;
    }

    private static boolean less(List<Integer> a, List<Integer> b) {
        return a.toString().compareTo(b.toString()) < 0;
    }

    int proof(int i) {
        if (i < -1 || i > 9) return BAD;
        List<Integer> p = proofs();
        return i == NONE ? p.size() : i < p.size() ? p.get(i) : NONE;
    }

    // ---- layings, odds

    private List<Integer> firstSeven() {
        return comers().subList(0, Math.min(7, comers().size()));
    }

    private List<Integer> leastRows(int k) {
        List<Integer> ones = firstSeven();
        int codes = 1;
        for (int i = 0; i < ones.size(); i++) codes *= k;
        int least = 1000;
        List<Integer> best = null;
        for (int code = 0; code < codes; code++) {
            Integer[] digits = new Integer[ones.size()];
            int[] rowOf = new int[10];
            int rest = code;
            for (int i = ones.size() - 1; i >= 0; i--) {
                digits[i] = rest % k;
                rowOf[ones.get(i)] = digits[i];
                rest /= k;
            }
            int sum = takeAll(laid(10, rowOf, ones, new ArrayList<>()), allGo());
            if (sum < least) {
                least = sum;
                best = new ArrayList<>(Arrays.asList(digits));
            }
        }
        best.add(0, least);
        return best;
    }

    int least(int k, int i) {
        if (k < 1 || k > 3 || i < -1 || i > 6) return BAD;
        List<Integer> all = leastRows(k);
        return i + 1 < all.size() ? all.get(i + 1) : NONE;
    }

    private int byRule(int rule, int k, List<Integer> ones) {
        List<Integer> order = allGo();
        List<List<Integer>> rows = new ArrayList<>();
        for (int r = 0; r < k; r++) rows.add(new ArrayList<>());
        int round = 0;
        for (int g : ones) {
            int chosen = 0;
            if (rule == 1) {
                chosen = round;
                round = round + 1 == k ? 0 : round + 1;
            }
            if (rule == 2) {
                for (int r = k - 1; r >= 0; r--) if (rows.get(r).size() <= rows.get(chosen).size()) chosen = r;
            }
            if (rule == 3) chosen = soonest(rows, order, g);
            rows.get(chosen).add(g);
        }
        return takeAll(rows, order);
    }

    private static int soonest(List<List<Integer>> rows, List<Integer> order, int g) {
        int[] goes = new int[rows.size()];
        for (int r = 0; r < goes.length; r++) {
            List<Integer> row = rows.get(r);
            goes[r] = row.isEmpty() ? 99 : order.indexOf(row.get(row.size() - 1));
        }
        for (int time = order.indexOf(g) + 1; time <= 99; time++) {
            for (int r = 0; r < goes.length; r++) if (goes[r] == time) return r;
        }
        for (int time = 99; ; time--) {
            for (int r = 0; r < goes.length; r++) if (goes[r] == time) return r;
        }
    }

    int rule(int rule, int k) {
        if (rule < 0 || rule > 3 || k < 1 || k > 9) return BAD;
        return byRule(rule, k, comers());
    }

    int best(int k) {
        if (k < 1 || k > 9) return BAD;
        int best = 0;
        for (int rule = 1; rule < 4; rule++) if (rule(rule, k) < rule(best, k)) best = rule;
        return best;
    }

    int gap(int k) {
        if (k < 1 || k > 3) return BAD;
        int fewest = 1000;
        for (int rule = 0; rule < 4; rule++) fewest = Math.min(fewest, byRule(rule, k, firstSeven()));
        return fewest - least(k, NONE);
    }

    private static long fraction(long above, long below, int what) {
        for (long d = below; d > 1; d--) {
            if (above % d == 0 && below % d == 0) {
                above /= d;
                below /= d;
            }
        }
        return what == 0 ? above : below;
    }

    long mean(int p, int what) {
        if (p < 0 || p > 16 || what < 0 || what > 1) return longBad();
        List<Integer> back = new ArrayList<>();
        for (int g : goers()) back.add(0, g);
        return fraction(p * takeAll(laid(), goers()) + (16 - p) * takeAll(laid(), back), 16, what);
    }

    private List<Integer> takers() {
        List<Integer> takers = new ArrayList<>(goers());
        takers.removeIf(g -> lifted(g) == NOT);
        return takers;
    }

    /** The mean of how many of m shoes are taken till two of them are there, three times over: by where the later one lies. */
    private static long thriceMean(int m) {
        long sum = 0;
        long pairs = 0;
        for (int a = 1; a <= m; a++) {
            for (int b = a + 1; b <= m; b++) {
                sum += b;
                pairs++;
            }
        }
        return 3 * sum / pairs;
    }

    long heap(int i, int what) {
        if (i < -1 || i >= takers().size() || what < 0 || what > 1) return longBad();
        long above = 0;
        int pairs = count(3);
        for (int t = 0; t < takers().size(); t++) {
            if (i == NONE || i == t) above += thriceMean(2 * pairs);
            pairs--;
        }
        return fraction(above, 3, what);
    }

    // ---- crowd, mistakes

    int out(int g) {
        if (g < -1 || g > 9) return BAD;
        if (g != NONE && lifted(g) < 0) return NOT;
        List<Integer> waiting = takers();
        int[] outs = new int[10];
        int last = 0;
        List<Integer> inside = new ArrayList<>();
        for (int minute = 0; !waiting.isEmpty(); minute++) {
            int now = minute;
            inside.removeIf(h -> outs[h] <= now);
            while (!waiting.isEmpty() && inside.size() < settings[1] && traits[2][waiting.get(0)] <= minute) {
                int h = waiting.remove(0);
                inside.add(h);
                outs[h] = minute + settings[2] + settings[3] * lifted(h);
                last = Math.max(last, outs[h]);
            }
        }
        return g == NONE ? last : outs[g];
    }

    int wrong(int g) {
        List<Integer> w = worn();
        if (g < -1 || g >= w.size()) return BAD;
        int n = 0;
        if (g == NONE) {
            for (int i = 0; i < w.size(); i++) n += w.get(i) == i ? 0 : 1;
            return n;
        }
        int at = g;
        do {
            at = w.get(at);
            n++;
        } while (at != g);
        return n;
    }

    int swaps() {
        List<Integer> w = new ArrayList<>(worn());
        int n = 0;
        for (int i = 0; i < w.size(); i++) {
            if (w.get(i) == i) continue;
            int j = w.indexOf(i);
            w.set(j, w.get(i));
            w.set(i, i);
            n++;
        }
        return n;
    }

    long alike(int what) {
        if (what < 0 || what > 1) return longBad();
        return taken(0, 0, what, comers(), new HashMap<>());
    }

    private long taken(int i, int used, int what, List<Integer> all, Map<Integer, Long> known) {
        if (i == all.size()) return 1;
        if (known.containsKey(used)) return known.get(used);
        long sum = 0;
        for (int j = 0; j < all.size(); j++) {
            if ((used >> j & 1) == 1 || what == 1 && i == j) continue;
            if (traits[1][all.get(i)] == traits[1][all.get(j)]) sum += taken(i + 1, used | 1 << j, what, all, known);
        }
        known.put(used, sum);
        return sum;
    }

    int ahead(int a, int b) {
        if (a < 0 || a > 9 || b < 0 || b > 9 || a == b) return BAD;
        if (told.size() == 8) return FULL;
        told.add(new int[] {a, b});
        return told.size();
    }

    int forget() {
        int had = told.size();
        told.clear();
        return had;
    }

    private List<Integer> gone(int left) {
        List<Integer> gone = new ArrayList<>(comers());
        gone.removeIf(g -> (left >> g & 1) == 1);
        return gone;
    }

    /** The orders of those who went, by who goes next; only those that begin with one, and where one goes ahead of another. */
    private long orders(List<Integer> gone, int left, int first, int[] pair, Map<Integer, Long> known) {
        for (int[] t : told) if (!gone.contains(t[0]) || !gone.contains(t[1])) return 0;
        if (left == 0) return 1;
        if (known.containsKey(left)) return known.get(left);
        boolean begin = Integer.bitCount(left) == gone.size();
        long sum = 0;
        for (int g : gone) {
            if ((left >> g & 1) == 0 || begin && first != NONE && first != g) continue;
            boolean may = pair == null || pair[1] != g || (left >> pair[0] & 1) == 0;
            for (int[] t : told) may &= t[1] != g || (left >> t[0] & 1) == 0;
            if (may) sum += orders(gone, left & ~(1 << g), first, pair, known);
        }
        known.put(left, sum);
        return sum;
    }

    private long orders(int left, int first, int[] pair) {
        List<Integer> gone = gone(left);
        int bits = 0;
        for (int g : gone) bits |= 1 << g;
        return orders(gone, bits, first, pair, new HashMap<>());
    }

    long fits(int left) {
        return left < 0 || left > 1023 ? longBad() : orders(left, NONE, null);
    }

    int sure(int left, int a, int b) {
        if (left < 0 || left > 1023 || a == b || !gone(left).contains(a) || !gone(left).contains(b)) return BAD;
        return fits(left) > 0 && orders(left, NONE, new int[] {b, a}) == 0 ? 1 : 0;
    }

    int firsts(int left) {
        if (left < 0 || left > 1023) return BAD;
        int bits = 0;
        for (int g : gone(left)) if (orders(left, g, null) > 0) bits |= 1 << g;
        return bits;
    }

    long night(int seed, int n) {
        if (n < 1 || n > 60) return longBad();
        long sum = 0;
        for (int night = 0; night < n; night++) {
            List<List<Integer>> rows = laid();
            List<Integer> there = new ArrayList<>(comers());
            there.sort(null);
            while (!there.isEmpty()) {
                seed = 1103515245 * seed + 12345;
                int upper = seed >> 16 & 0xffff;
                sum += Math.max(0, take(rows, there.remove(upper % there.size())));
            }
        }
        return sum;
    }

    // ---- sheets: true arrays

    private int finding(int number) {
        latest = number;
        return -10 - number;
    }

    private int length(int s) {
        return java.lang.reflect.Array.getLength(sheets[s]);
    }

    private int item(int s, int i) {
        return java.lang.reflect.Array.getInt(sheets[s], i);
    }

    private int form(int s) {
        return sheets[s] instanceof byte[] ? 0 : sheets[s] instanceof short[] ? 1 : 2;
    }

    int sheet(int s, int form, int n) {
        if (s < 0 || s > 3 || form < 0 || form > 2 || n > 48) return BAD;
        if (n < 0) return finding(5);
        sheets[s] = form == 0 ? new byte[n] : form == 1 ? new short[n] : new int[n];
        return n;
    }

    int lose(int s) {
        if (s < 0 || s > 3) return BAD;
        if (sheets[s] == null) return finding(1);
        int had = length(s);
        sheets[s] = null;
        return had;
    }

    private int itemFinding(int s, int form, int i) {
        if (sheets[s] == null) return 1;
        if (form(s) != form) return 3;
        return i < 0 || i >= length(s) ? 2 : 0;
    }

    int put(int s, int form, int i, int v) {
        if (s < 0 || s > 3 || form < 0 || form > 2) return BAD;
        int found = itemFinding(s, form, i);
        if (found != 0) return finding(found);
        if (form == 0) ((byte[]) sheets[s])[i] = (byte) v;
        if (form == 1) ((short[]) sheets[s])[i] = (short) v;
        if (form == 2) ((int[]) sheets[s])[i] = v;
        return 1;
    }

    int get(int s, int form, int i) {
        if (s < 0 || s > 3 || form < 0 || form > 2) return Integer.MIN_VALUE;
        int found = itemFinding(s, form, i);
        if (found != 0) {
            finding(found);
            return Integer.MIN_VALUE;
        }
        return item(s, i);
    }

    int copy(int s, int i, int t, int j, int n) {
        if (s < 0 || s > 3 || t < 0 || t > 3) return BAD;
        if (sheets[s] == null || sheets[t] == null) return finding(1);
        if (sheets[s].getClass() != sheets[t].getClass()) return finding(4);
        if (i < 0 || j < 0 || n < 0 || (long) i + n > length(s) || (long) j + n > length(t)) return finding(2);
        int[] items = new int[n];
        for (int at = 0; at < n; at++) items[at] = item(s, i + at);
        for (int at = 0; at < n; at++) put(t, form(t), j + at, items[at]);
        return 1;
    }

    int write(int s) {
        if (s < 0 || s > 3) return BAD;
        if (sheets[s] == null) return finding(1);
        int n = 0;
        for (int g : takers()) {
            if (n < length(s)) {
                java.lang.reflect.Array.setByte(sheets[s], n, (byte) lifted(g));
                n++;
            }
        }
        return n;
    }

    int count(int what) {
        List<Integer> notLaid = new ArrayList<>();
        List<List<Integer>> rows = laid(settings[0], traits[0], comers(), notLaid);
        rows.removeIf(List::isEmpty);
        int[] all = {comers().size(), goers().size(), worn().size(), comers().size() - notLaid.size(), rows.size(),
            told.size(), settings[1], settings[0], latest};
        return what < 0 || what > 8 ? BAD : all[what];
    }

    long digest() {
        List<Long> all = new ArrayList<>();
        for (int i = 0; i < 8; i++) all.add((long) count(i));
        for (int i = 0; i < 3; i++) all.add((long) fault(i));
        all.add((long) judged());
        for (int g = 0; g < 10; g++) {
            all.addAll(List.of((long) lifted(g), (long) rows(g), (long) out(g), (long) wrong(g)));
        }
        all.addAll(List.of((long) lifted(NONE), (long) rows(NONE)));
        all.addAll(List.of((long) proof(-1), (long) proof(0), (long) proof(1), (long) proof(2)));
        all.addAll(List.of((long) out(NONE), (long) wrong(NONE), (long) swaps()));
        all.addAll(List.of((long) least(2, -1), (long) least(2, 0), (long) least(2, 1)));
        for (int rule = 0; rule < 4; rule++) all.add((long) rule(rule, 2));
        all.addAll(List.of((long) best(2), (long) gap(2), mean(5, 0), mean(5, 1)));
        all.addAll(List.of(heap(-1, 0), heap(-1, 1), heap(0, 0), heap(0, 1)));
        all.addAll(List.of(alike(0), alike(1), fits(1), (long) firsts(1), night(7, 3)));
        long h = 17;
        for (long x : all) h = 31 * h + x;
        return h;
    }
}
