import java.util.ArrayList;
import java.util.Arrays;
import java.util.HashSet;
import java.util.List;
import java.util.Set;
import java.util.TreeSet;

/** The document told again in its own words, slowly: nothing is kept but the state itself. */
final class Model {
    static final int NO_ANSWER = Integer.MIN_VALUE;

    static final class PartState {
        int size, miss, worth, bound;

        PartState copy() {
            PartState c = new PartState();
            c.size = size;
            c.miss = miss;
            c.worth = worth;
            c.bound = bound;
            return c;
        }
    }

    static final class MeterState {
        int kind;
        List<PartState> parts = new ArrayList<>();

        MeterState copy() {
            MeterState c = new MeterState();
            c.kind = kind;
            for (PartState p : parts) {
                c.parts.add(p.copy());
            }
            return c;
        }
    }

    static final class Bench {
        int range = 255;
        List<MeterState> meters = new ArrayList<>();

        Bench copy() {
            Bench c = new Bench();
            c.range = range;
            for (MeterState m : meters) {
                c.meters.add(m.copy());
            }
            return c;
        }
    }

    /** All that a METER tells of a number. */
    record Told(int code, int trail, int rest) { }

    private Bench now = new Bench();
    private final List<Bench> before = new ArrayList<>();
    private final List<int[]> noise = new ArrayList<>();
    private final List<int[]> faults = new ArrayList<>();
    private int trouble = 0;

    private void act() {
        before.add(now.copy());
        if (before.size() > 60) {
            before.remove(0);
        }
    }

    private MeterState meterOf(int m) {
        return m < 0 || m >= now.meters.size() ? null : now.meters.get(m);
    }

    private PartState partAt(int m, int k) {
        MeterState s = meterOf(m);
        return s == null || k < 0 || k >= s.parts.size() ? null : s.parts.get(k);
    }

    private boolean number(long x) {
        return 0 <= x && x <= now.range;
    }

    /** Sizes as they are, with a fault's MISS instead if it is one of this METER's. */
    private int[] asTheyAre(int m, int[] fault) {
        MeterState s = meterOf(m);
        int[] all = new int[s.parts.size()];
        for (int k = 0; k < all.length; k++) {
            PartState p = s.parts.get(k);
            all[k] = p.size + (fault != null && fault[0] == m && fault[1] == k ? fault[2] : p.miss);
        }
        return all;
    }

    private Told told(int m, int x, int[] fault) {
        MeterState s = meterOf(m);
        int[] parts = asTheyAre(m, fault);
        boolean[] bits = new boolean[parts.length];
        int rest = x;
        if (s.kind <= 1) {
            int greatest = Integer.MIN_VALUE;
            for (int k = 0; k < parts.length; k++) {
                int edge = s.kind == 0 ? parts[k] : Arrays.stream(parts, 0, k + 1).sum();
                bits[k] = !(edge > x);
                if (bits[k] && edge > greatest) {
                    greatest = edge;
                }
            }
            rest = greatest == Integer.MIN_VALUE ? x : x - greatest;
        } else if (s.kind == 2) {
            int on = 0;
            for (int k = 0; k < parts.length; k++) {
                int with = on + parts[k];
                if (!(with > x)) {
                    bits[k] = true;
                    on = with;
                }
            }
            rest = x - on;
        } else {
            for (int k = 0; k < parts.length; k++) {
                bits[k] = !(rest < s.parts.get(k).bound);
                if (bits[k]) {
                    rest = s.kind == 3 ? rest - parts[k] : parts[k] - rest;
                }
                rest = 2 * rest;
                if (rest > 1000000) {
                    rest = 1000000;
                }
                if (rest < -1000000) {
                    rest = -1000000;
                }
            }
        }
        int code = 0;
        int trail = 0;
        for (int k = 0; k < parts.length; k++) {
            int set = 0;
            for (int j = 0; j <= k; j++) {
                set += bits[j] ? 1 : 0;
            }
            boolean counts = s.kind == 4 ? set % 2 == 1 : bits[k];
            code += counts ? s.parts.get(k).worth : 0;
            trail += bits[k] ? (int) Math.pow(2, k) : 0;
        }
        return new Told(code, trail, rest);
    }

    private int code(int m, int x) {
        return told(m, x, null).code();
    }

    private int[] allCodes(int m, int[] fault) {
        int[] all = new int[now.range + 1];
        for (int x = 0; x < all.length; x++) {
            all[x] = told(m, x, fault).code();
        }
        return all;
    }

    boolean range(int r) {
        if (r < 1 || r > 4095) {
            trouble = 1;
            return false;
        }
        trouble = 0;
        act();
        now.range = r;
        return true;
    }

    int meter(int kind) {
        if (kind < 0 || kind > 4) {
            trouble = 1;
            return -1;
        }
        if (now.meters.size() == 8) {
            trouble = 3;
            return -1;
        }
        trouble = 0;
        act();
        MeterState s = new MeterState();
        s.kind = kind;
        now.meters.add(s);
        return now.meters.size() - 1;
    }

    int part(int m, int size, int bound) {
        MeterState s = meterOf(m);
        if (s == null) {
            trouble = 2;
            return -1;
        }
        if (size < -8000 || size > 8000 || s.kind >= 3 && (bound < -8000 || bound > 8000)) {
            trouble = 1;
            return -1;
        }
        if (s.parts.size() == 16) {
            trouble = 3;
            return -1;
        }
        trouble = 0;
        act();
        PartState p = new PartState();
        p.size = size;
        p.bound = s.kind >= 3 ? bound : 0;
        p.worth = s.kind == 2 ? size : 1;
        s.parts.add(p);
        if (s.kind >= 3) {
            for (int k = 0; k < s.parts.size(); k++) {
                int behind = s.parts.size() - 1 - k;
                s.parts.get(k).worth = (int) Math.min(8000, Math.pow(2, behind));
            }
        }
        return s.parts.size();
    }

    boolean miss(int m, int k, int v) {
        PartState p = partAt(m, k);
        trouble = p == null ? 2 : v < -500 || v > 500 ? 1 : 0;
        if (trouble == 0) {
            act();
            partAt(m, k).miss = v;
        }
        return trouble == 0;
    }

    boolean worth(int m, int k, int v) {
        PartState p = partAt(m, k);
        trouble = p == null ? 2 : meterOf(m).kind < 2 ? 4 : v < -8000 || v > 8000 ? 1 : 0;
        if (trouble == 0) {
            act();
            partAt(m, k).worth = v;
        }
        return trouble == 0;
    }

    int partOf(int m, int k, int what) {
        PartState p = partAt(m, k);
        if (p == null || what < 0 || what > 3) {
            return -10000;
        }
        return new int[] {p.size, p.miss, p.worth, p.bound}[what];
    }

    int kind(int m, int what) {
        MeterState s = meterOf(m);
        if (s == null || what != 0 && what != 1) {
            return -1;
        }
        return what == 0 ? s.kind : s.parts.size();
    }

    int read(int m, int x) {
        return meterOf(m) == null || !number(x) ? NO_ANSWER : code(m, x);
    }

    int trail(int m, int x) {
        return meterOf(m) == null || !number(x) ? -1 : told(m, x, null).trail();
    }

    int rest(int m, int x) {
        return meterOf(m) == null || !number(x) ? NO_ANSWER : told(m, x, null).rest();
    }

    private List<int[]> allSpans(int m) {
        List<int[]> all = new ArrayList<>();
        int[] codes = allCodes(m, null);
        for (int x = 0; x < codes.length; x++) {
            if (all.isEmpty() || all.get(all.size() - 1)[2] != codes[x]) {
                all.add(new int[] {x, x, codes[x]});
            }
            all.get(all.size() - 1)[1] = x;
        }
        return all;
    }

    /** Whether there is such a METER, told as TROUBLE too. */
    private boolean there(int m) {
        trouble = meterOf(m) == null ? 2 : 0;
        return trouble == 0;
    }

    int spans(int m) {
        return there(m) ? allSpans(m).size() : -1;
    }

    int span(int m, int i, int what) {
        if (meterOf(m) == null || what < 0 || what > 2 || i < 0 || i >= allSpans(m).size()) {
            return NO_ANSWER;
        }
        return allSpans(m).get(i)[what];
    }

    private TreeSet<Integer> unlike(int m) {
        TreeSet<Integer> all = new TreeSet<>();
        for (int c : allCodes(m, null)) {
            all.add(c);
        }
        return all;
    }

    int codes(int m) {
        return there(m) ? unlike(m).size() : -1;
    }

    int lacks(int m) {
        if (!there(m)) {
            return -1;
        }
        TreeSet<Integer> had = unlike(m);
        int lacking = 0;
        for (int c = 0; c <= had.last(); c++) {
            lacking += had.contains(c) ? 0 : 1;
        }
        return lacking;
    }

    private int firstBack(int m) {
        int[] all = allCodes(m, null);
        for (int x = 1; x < all.length; x++) {
            if (all[x] < all[x - 1]) {
                return x;
            }
        }
        return -2;
    }

    int back(int m) {
        return there(m) ? firstBack(m) : -1;
    }

    int widest(int m) {
        if (!there(m)) {
            return -1;
        }
        List<int[]> all = allSpans(m);
        int best = 0;
        for (int i = 1; i < all.size(); i++) {
            if (all.get(i)[1] - all.get(i)[0] > all.get(best)[1] - all.get(best)[0]) {
                best = i;
            }
        }
        return 10000 * (all.get(best)[1] - all.get(best)[0] + 1) + best;
    }

    private int edgeIn(int[] codes, int k) {
        int x = 0;
        while (x < codes.length && codes[x] < k) {
            x++;
        }
        return x;
    }

    int edge(int m, int k) {
        return there(m) ? edgeIn(allCodes(m, null), k) : -1;
    }

    int line(int m, int what) {
        if (!there(m)) {
            return -1;
        }
        if (what != 0 && what != 1) {
            trouble = 1;
            return -1;
        }
        int n = unlike(m).last();
        if (n < 2 || firstBack(m) >= 0) {
            trouble = 5;
            return -1;
        }
        int[] codes = allCodes(m, null);
        long worst = -1;
        int place = 0;
        for (int k = 1; k <= n; k++) {
            long one = (long) (n - 1) * (edgeIn(codes, k) - edgeIn(codes, 1));
            long line = (long) (k - 1) * (edgeIn(codes, n) - edgeIn(codes, 1));
            if (Math.abs(one - line) > worst) {
                worst = Math.abs(one - line);
                place = k;
            }
        }
        return what == 0 ? (int) worst : place;
    }

    private boolean balance(int m) {
        trouble = meterOf(m) == null ? 2 : meterOf(m).kind != 2 ? 4 : 0;
        return trouble == 0;
    }

    int covered(int m) {
        if (!balance(m)) {
            return -1;
        }
        int[] parts = asTheyAre(m, null);
        for (int k = 0; k < parts.length; k++) {
            int behind = Arrays.stream(parts, k + 1, parts.length).sum();
            if (parts[k] < 0 || parts[k] > 1 + behind) {
                return k;
            }
        }
        return -2;
    }

    int tail(int m) {
        if (!balance(m)) {
            return -1;
        }
        int end = Arrays.stream(asTheyAre(m, null)).sum();
        end = end > now.range ? now.range : end < 0 ? 0 : end;
        int most = Integer.MIN_VALUE;
        for (int x = 0; x <= end; x++) {
            most = Math.max(most, x - code(m, x));
        }
        return most;
    }

    boolean mend(int m) {
        if (!balance(m)) {
            return false;
        }
        act();
        for (PartState p : meterOf(m).parts) {
            p.worth = p.size + p.miss;
        }
        return true;
    }

    int count(int m, int from, int to, int step, int code) {
        if (!there(m)) {
            return -1;
        }
        if (from < 0 || from > to || to > now.range || step < 1) {
            trouble = 1;
            return -1;
        }
        int found = 0;
        for (int x = from; x <= to; x++) {
            if ((x - from) % step == 0 && code(m, x) == code) {
                found++;
            }
        }
        return found;
    }

    int noise(int d, int times) {
        if (d < -100 || d > 100 || times < 1 || times > 1000) {
            trouble = 1;
            return -1;
        }
        if (noise.size() == 8) {
            trouble = 3;
            return -1;
        }
        trouble = 0;
        noise.add(new int[] {d, times});
        return noise.size();
    }

    int still() {
        int held = noise.size();
        noise.clear();
        return held;
    }

    int mean(int m, int x, boolean lower) {
        if (meterOf(m) == null || !number(x)) {
            trouble = 2;
            return -1;
        }
        trouble = 0;
        long upper = 0;
        long all = 0;
        for (int[] one : noise) {
            int moved = x + one[0];
            moved = moved < 0 ? 0 : moved > now.range ? now.range : moved;
            for (int i = 0; i < one[1]; i++) {
                upper += code(m, moved);
                all++;
            }
        }
        if (noise.isEmpty()) {
            upper = code(m, x);
            all = 1;
        }
        for (long d = all; d > 1; d--) {
            if (upper % d == 0 && all % d == 0) {
                upper /= d;
                all /= d;
            }
        }
        return (int) (lower ? all : upper);
    }

    int fault(int m, int k, int v) {
        trouble = partAt(m, k) == null ? 2 : v < -500 || v > 500 ? 1 : faults.size() == 10 ? 3 : 0;
        if (trouble != 0) {
            return -1;
        }
        faults.add(new int[] {m, k, v});
        return faults.size();
    }

    int clear() {
        int held = faults.size();
        faults.clear();
        return held;
    }

    private boolean showsIt(int[] f, int x) {
        return told(f[0], x, f).code() != code(f[0], x);
    }

    int shown(int i) {
        trouble = i < 0 || i >= faults.size() ? 2 : 0;
        if (trouble != 0) {
            return -1;
        }
        for (int x = 0; x <= now.range; x++) {
            if (showsIt(faults.get(i), x)) {
                return x;
            }
        }
        return -2;
    }

    private int bitsAt(int x) {
        int bits = 0;
        for (int i = 0; i < faults.size(); i++) {
            bits += showsIt(faults.get(i), x) ? 1 << i : 0;
        }
        return bits;
    }

    int shows() {
        Set<Integer> masks = new HashSet<>();
        int wanted = 0;
        for (int x = 0; x <= now.range; x++) {
            masks.add(bitsAt(x));
            wanted |= bitsAt(x);
        }
        for (int n = 0; ; n++) {
            if (reaches(masks, wanted, n)) {
                return n;
            }
        }
    }

    /** Whether n of the masks hold all that is wanted: one of them must hold its lowest bit. */
    private static boolean reaches(Set<Integer> masks, int wanted, int n) {
        if (wanted == 0) {
            return true;
        }
        if (n == 0) {
            return false;
        }
        int lowest = Integer.lowestOneBit(wanted);
        for (int mask : masks) {
            if ((mask & lowest) != 0 && reaches(masks, wanted & ~mask, n - 1)) {
                return true;
            }
        }
        return false;
    }

    int showing(int x) {
        return number(x) ? bitsAt(x) : -1;
    }

    int alike() {
        int pairs = 0;
        for (int i = 0; i < faults.size(); i++) {
            for (int j = 0; j < i; j++) {
                int[] a = faults.get(i);
                int[] b = faults.get(j);
                if (a[0] == b[0] && Arrays.equals(allCodes(a[0], a), allCodes(b[0], b))) {
                    pairs++;
                }
            }
        }
        return pairs;
    }

    int beyond(int m) {
        if (!there(m)) {
            return -1;
        }
        for (int x = 0; x <= now.range; x++) {
            if (!number(told(m, x, null).rest())) {
                return x;
            }
        }
        return -2;
    }

    int joined(int m, int other, int factor, int x) {
        if (meterOf(m) == null || meterOf(other) == null || !number(x)) {
            trouble = 2;
            return NO_ANSWER;
        }
        Told first = told(m, x, null);
        if (factor < -1000 || factor > 1000 || !number(first.rest())) {
            trouble = 1;
            return NO_ANSWER;
        }
        trouble = 0;
        return first.code() * factor + code(other, first.rest());
    }

    int undo() {
        if (before.isEmpty()) {
            return 0;
        }
        now = before.remove(before.size() - 1);
        faults.removeIf(f -> partAt(f[0], f[1]) == null);
        return 1;
    }

    int size(int what) {
        if (what < 0 || what > 4) {
            return -1;
        }
        return new int[] {now.range, now.meters.size(), noise.size(), faults.size(), before.size()}[what];
    }

    int trouble() {
        return trouble;
    }
}
