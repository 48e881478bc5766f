import java.util.Arrays;

/** A bench for meters that read a whole number as a coarser code (../shared/DOC.md). */
public final class StepMeters {
    /** There is none; refused. */
    public static final int NONE = -1;

    private static final int NOWHERE = -2;
    private static final int NO_PART = -10_000;
    private static final int NO_ANSWER = -2_147_483_648;

    private static final int FINE = 0;
    private static final int BAD_NUMBER = 1;
    private static final int NONE_SUCH = 2;
    private static final int NO_ROOM = 3;
    private static final int OTHER_KIND = 4;
    private static final int NO_LINE = 5;

    private static final int EDGES = 0;
    private static final int LADDER = 1;
    private static final int BALANCE = 2;
    private static final int STAGES = 3;
    private static final int FOLDED = 4;

    private static final int MOST_RANGE = 4_095;
    private static final int FIRST_RANGE = 255;
    private static final int MOST_METERS = 8;
    private static final int MOST_PARTS = 16;
    private static final int MOST_FAULTS = 10;
    private static final int MOST_SUMS = 8;
    private static final int MOST_ACTS = 60;
    private static final int MOST_SIZE = 8_000;
    private static final int MOST_MISS = 500;
    private static final int MOST_REST = 1_000_000;
    private static final int MOST_SUM = 100;
    private static final int MOST_TIMES = 1_000;
    private static final int MOST_FACTOR = 1_000;
    // A mended WORTH has its MISS in it, so codes may reach further than WORTHS that are set.
    private static final int MOST_CODE = MOST_PARTS * (MOST_SIZE + MOST_MISS);
    private static final int SPAN_UNIT = 10_000;

    private static final int ACT_RANGE = 0;
    private static final int ACT_METER = 1;
    private static final int ACT_PART = 2;
    private static final int ACT_MISS = 3;
    private static final int ACT_WORTH = 4;
    private static final int ACT_MEND = 5;

    private final Meter[] meters = new Meter[MOST_METERS];
    private final Table table = new Table();
    private final Noise sums = new Noise();
    private final Fault[] faults = new Fault[MOST_FAULTS];
    private final int[] faultCodes = new int[MOST_FAULTS];
    private final int[] toldApart = new int[MOST_FAULTS];
    private final Cover cover = new Cover();
    private final Past past = new Past();
    private int top = FIRST_RANGE;
    private int meterCount = 0;
    private int faultCount = 0;
    private int status = FINE;
    // The METER whose codes stand in the table; NONE since anything changed.
    private int tableOf = NONE;

    /** Promise 1: no METERS. */
    public StepMeters() {
        for (int m = 0; m < meters.length; m++) {
            meters[m] = new Meter();
        }
        for (int i = 0; i < faults.length; i++) {
            faults[i] = new Fault();
        }
    }

    /** Promise 2: RANGE becomes r. */
    public boolean range(int r) {
        status = r < 1 || r > MOST_RANGE ? BAD_NUMBER : FINE;
        if (status != FINE) {
            return false;
        }
        Act act = newAct(ACT_RANGE, NONE, NONE);
        if (act != null) {
            act.old = top;
        }
        top = r;
        return true;
    }

    /** Promise 3: a new METER without PARTS. */
    public int meter(int kind) {
        status = kind < EDGES || kind > FOLDED ? BAD_NUMBER
                : meterCount >= MOST_METERS ? NO_ROOM : FINE;
        if (status != FINE) {
            return NONE;
        }
        newAct(ACT_METER, meterCount, NONE);
        meterCount++;
        Meter made = meterAt(meterCount - 1);
        if (made != null) {
            made.begin(kind);
        }
        return meterCount - 1;
    }

    /** Promise 4: a PART behind those of a METER. */
    public int part(int m, int size, int bound) {
        Meter meter = meterAt(m);
        status = whyNoPart(meter, size, bound);
        if (meter == null || status != FINE) {
            return NONE;
        }
        Act act = newAct(ACT_PART, m, meter.count);
        if (act != null) {
            meter.keepWorths(act.worths);
        }
        meter.addPart(size, bound);
        return meter.count;
    }

    /** Promise 5: MISS of a PART. */
    public boolean miss(int m, int k, int v) {
        Part part = partAt(m, k);
        status = part == null ? NONE_SUCH : isWithin(v, MOST_MISS) ? FINE : BAD_NUMBER;
        if (part == null || status != FINE) {
            return false;
        }
        Act act = newAct(ACT_MISS, m, k);
        if (act != null) {
            act.old = part.miss;
        }
        part.miss = v;
        return true;
    }

    /** Promise 6: WORTH of a PART. */
    public boolean worth(int m, int k, int v) {
        Meter meter = meterAt(m);
        Part part = partAt(m, k);
        status = meter == null || part == null ? NONE_SUCH
                : meter.kind == EDGES || meter.kind == LADDER ? OTHER_KIND
                : isWithin(v, MOST_SIZE) ? FINE : BAD_NUMBER;
        if (part == null || status != FINE) {
            return false;
        }
        Act act = newAct(ACT_WORTH, m, k);
        if (act != null) {
            act.old = part.worth;
        }
        part.worth = v;
        return true;
    }

    /** Promise 7: SIZE, MISS, WORTH or BOUND of a PART. */
    public int partOf(int m, int k, int what) {
        Part part = partAt(m, k);
        if (part == null) {
            return NO_PART;
        }
        switch (what) {
            case 0: return part.size;
            case 1: return part.miss;
            case 2: return part.worth;
            case 3: return part.bound;
            default: return NO_PART;
        }
    }

    /** Promise 8: the kind of a METER, or how many PARTS it has. */
    public int kind(int m, int what) {
        Meter meter = meterAt(m);
        if (meter == null || what < 0 || what > 1) {
            return NONE;
        }
        return what == 0 ? meter.kind : meter.count;
    }

    /** Promise 9: the code of a number. */
    public int read(int m, int x) {
        Meter meter = meterAt(m);
        return meter == null || !isNumber(x) ? NO_ANSWER : meter.codeOf(x);
    }

    /** Promise 10: the TRAIL of a number. */
    public int trail(int m, int x) {
        Meter meter = meterAt(m);
        if (meter == null || !isNumber(x)) {
            return NONE;
        }
        meter.codeOf(x);
        return meter.trail;
    }

    /** Promise 11: the REST of a number. */
    public int rest(int m, int x) {
        Meter meter = meterAt(m);
        if (meter == null || !isNumber(x)) {
            return NO_ANSWER;
        }
        meter.codeOf(x);
        return meter.rest;
    }

    /** Promise 12: how many SPANS. */
    public int spans(int m) {
        return isTabled(m) ? table.spanCount() : NONE;
    }

    /** Promise 13: the first number, the last or the code of a SPAN. */
    public int span(int m, int i, int what) {
        if (what < 0 || what > 2 || !fillTable(m)) {
            return NO_ANSWER;
        }
        int first = table.spanStart(i);
        if (first == NONE) {
            return NO_ANSWER;
        }
        return what == 0 ? first : what == 1 ? table.spanEnd(first) : table.codeAt(first);
    }

    /** Promise 14: how many unlike codes. */
    public int codes(int m) {
        return isTabled(m) ? table.unlikeFrom(-MOST_CODE) : NONE;
    }

    /** Promise 15: how many codes from 0 to the greatest no number has. */
    public int lacks(int m) {
        if (!isTabled(m)) {
            return NONE;
        }
        return Math.max(0, table.greatestCode() + 1) - table.unlikeFrom(0);
    }

    /** Promise 16: the first number whose code is less than that of the one ahead of it. */
    public int back(int m) {
        return isTabled(m) ? table.firstBack() : NONE;
    }

    /** Promise 17: the widest SPAN's numbers and its place. */
    public int widest(int m) {
        return isTabled(m) ? table.widestSpan() : NONE;
    }

    /** Promise 18: EDGE of k. */
    public int edge(int m, int k) {
        return isTabled(m) ? table.edgeOf(k) : NONE;
    }

    /** Promise 19: WORST of LINE, or its k. */
    public int line(int m, int what) {
        if (!isTabled(m)) {
            return NONE;
        }
        int greatest = table.greatestCode();
        status = what < 0 || what > 1 ? BAD_NUMBER
                : greatest < 2 || table.firstBack() != NOWHERE ? NO_LINE : FINE;
        return status == FINE ? table.worstOfLine(greatest, what == 1) : NONE;
    }

    /** Promise 20: whether a BALANCE is COVERED. */
    public int covered(int m) {
        Meter meter = meterAt(m);
        status = whyNoBalance(meter);
        return meter == null || status != FINE ? NONE : meter.firstUncovered();
    }

    /** Promise 21: TAIL of a BALANCE. */
    public int tail(int m) {
        Meter meter = meterAt(m);
        status = whyNoBalance(meter);
        if (meter == null || status != FINE) {
            return NONE;
        }
        int last = Math.max(0, Math.min(top, meter.together()));
        int most = -meter.codeOf(0);
        for (int x = 1; x <= last; x++) {
            most = Math.max(most, x - meter.codeOf(x));
        }
        return most;
    }

    /** Promise 22: WORTHS of a BALANCE become what its PARTS are. */
    public boolean mend(int m) {
        Meter meter = meterAt(m);
        status = whyNoBalance(meter);
        if (meter == null || status != FINE) {
            return false;
        }
        Act act = newAct(ACT_MEND, m, NONE);
        if (act != null) {
            meter.keepWorths(act.worths);
        }
        meter.mendWorths();
        return true;
    }

    /** Promise 23: how many of the numbers from, from + step .. have a code. */
    public int count(int m, int from, int to, int step, int code) {
        Meter meter = meterAt(m);
        boolean inOrder = 0 <= from && from <= to && to <= top && step >= 1;
        status = meter == null ? NONE_SUCH : inOrder ? FINE : BAD_NUMBER;
        if (meter == null || status != FINE) {
            return NONE;
        }
        int found = 0;
        // A long: the step may be so great that an int would wrap around.
        for (long x = from; x <= to; x += step) {
            if (meter.codeOf((int) x) == code) {
                found++;
            }
        }
        return found;
    }

    /** Promise 24: a little sum more comes to the NOISE. */
    public int noise(int d, int times) {
        boolean right = isWithin(d, MOST_SUM) && times >= 1 && times <= MOST_TIMES;
        status = !right ? BAD_NUMBER : sums.held >= MOST_SUMS ? NO_ROOM : FINE;
        if (status != FINE) {
            return NONE;
        }
        sums.addSum(d, times);
        return sums.held;
    }

    /** Promise 25: the NOISE is empty. */
    public int still() {
        int held = sums.held;
        sums.held = 0;
        return held;
    }

    /** Promise 26: the upper or lower number of MEAN. */
    public int mean(int m, int x, boolean lower) {
        Meter meter = meterAt(m);
        status = meter == null || !isNumber(x) ? NONE_SUCH : FINE;
        if (meter == null || status != FINE) {
            return NONE;
        }
        if (sums.held == 0) {
            return lower ? 1 : meter.codeOf(x);
        }
        int upperNumber = sums.weighedCodes(meter, x, top);
        int lowerNumber = sums.timesTogether();
        int shared = Math.max(1, commonDivisor(upperNumber, lowerNumber));
        return (lower ? lowerNumber : upperNumber) / shared;
    }

    /** Promise 27: a FAULT more. */
    public int fault(int m, int k, int v) {
        status = partAt(m, k) == null ? NONE_SUCH
                : !isWithin(v, MOST_MISS) ? BAD_NUMBER
                : faultCount >= MOST_FAULTS ? NO_ROOM : FINE;
        if (status != FINE) {
            return NONE;
        }
        faultCount++;
        Fault made = faultAt(faultCount - 1);
        if (made != null) {
            made.become(m, k, v);
        }
        return faultCount;
    }

    /** Promise 28: no FAULTS. */
    public int clear() {
        int held = faultCount;
        faultCount = 0;
        return held;
    }

    /** Promise 29: the least number that SHOWS a FAULT. */
    public int shown(int i) {
        Fault fault = faultAt(i);
        status = fault == null ? NONE_SUCH : FINE;
        if (fault == null) {
            return NONE;
        }
        for (int x = 0; x <= top; x++) {
            if (isShownBy(fault, x)) {
                return x;
            }
        }
        return NOWHERE;
    }

    /** Promise 30: the fewest numbers that show each FAULT that can be shown. */
    public int shows() {
        if (faultCount == 0) {
            return 0;
        }
        cover.begin();
        for (int x = 0; x <= top; x++) {
            cover.addMask(faultsShownBy(x));
        }
        return cover.fewest();
    }

    /** Promise 31: the FAULTS that a number SHOWS, as bits. */
    public int showing(int x) {
        return isNumber(x) ? faultsShownBy(x) : NONE;
    }

    /** Promise 32: how many pairs of FAULTS of one METER no number tells apart. */
    public int alike() {
        if (faultCount < 2) {
            return 0;
        }
        Arrays.fill(toldApart, 0);
        for (int x = 0; x <= top; x++) {
            tellApart(x);
        }
        int pairs = 0;
        for (int i = 0; i < faultCount; i++) {
            for (int j = i + 1; j < faultCount; j++) {
                if (areAlike(i, j)) {
                    pairs++;
                }
            }
        }
        return pairs;
    }

    /** Promise 33: the first number whose REST is not from 0 to RANGE. */
    public int beyond(int m) {
        Meter meter = meterAt(m);
        status = meter == null ? NONE_SUCH : FINE;
        if (meter == null) {
            return NONE;
        }
        for (int x = 0; x <= top; x++) {
            meter.codeOf(x);
            if (!isNumber(meter.rest)) {
                return x;
            }
        }
        return NOWHERE;
    }

    /** Promise 34: one METER's code times a factor, and another one's code for its REST. */
    public int joined(int m, int other, int factor, int x) {
        Meter first = meterAt(m);
        Meter second = meterAt(other);
        status = first == null || second == null || !isNumber(x) ? NONE_SUCH
                : isWithin(factor, MOST_FACTOR) ? FINE : BAD_NUMBER;
        if (first == null || second == null || status != FINE) {
            return NO_ANSWER;
        }
        int coarse = first.codeOf(x);
        int rest = first.rest;
        if (!isNumber(rest)) {
            status = BAD_NUMBER;
            return NO_ANSWER;
        }
        return coarse * factor + second.codeOf(rest);
    }

    /** Promise 35: the latest act is taken back. */
    public int undo() {
        Act act = past.latest();
        if (act == null) {
            return 0;
        }
        takeBack(act);
        past.dropLatest();
        dropGoneFaults();
        tableOf = NONE;
        return 1;
    }

    /** Promise 36: how much there is of what. */
    public int size(int what) {
        switch (what) {
            case 0: return top;
            case 1: return meterCount;
            case 2: return sums.held;
            case 3: return faultCount;
            case 4: return past.held;
            default: return NONE;
        }
    }

    /** Promise 37: TROUBLE. */
    public int trouble() {
        return status;
    }

    private static boolean isWithin(int v, int most) {
        return v >= -most && v <= most;
    }

    private boolean isNumber(int x) {
        return x >= 0 && x <= top;
    }

    private Meter meterAt(int m) {
        return m >= 0 && m < meterCount && m < meters.length ? meters[m] : null;
    }

    private Part partAt(int m, int k) {
        Meter meter = meterAt(m);
        return meter == null ? null : meter.partAt(k);
    }

    private Fault faultAt(int i) {
        return i >= 0 && i < faultCount && i < faults.length ? faults[i] : null;
    }

    private static int whyNoPart(Meter meter, int size, int bound) {
        if (meter == null) {
            return NONE_SUCH;
        }
        if (!isWithin(size, MOST_SIZE) || (meter.isStaged() && !isWithin(bound, MOST_SIZE))) {
            return BAD_NUMBER;
        }
        return meter.count >= MOST_PARTS ? NO_ROOM : FINE;
    }

    private static int whyNoBalance(Meter meter) {
        return meter == null ? NONE_SUCH : meter.kind != BALANCE ? OTHER_KIND : FINE;
    }

    /** Whether there is such a METER; if so its codes stand in the table then. */
    private boolean fillTable(int m) {
        Meter meter = meterAt(m);
        if (meter == null) {
            return false;
        }
        if (tableOf != m) {
            table.fillFrom(meter, top);
            tableOf = m;
        }
        return true;
    }

    private boolean isTabled(int m) {
        boolean there = fillTable(m);
        status = there ? FINE : NONE_SUCH;
        return there;
    }

    private static int commonDivisor(int a, int b) {
        int greater = Math.abs(a);
        int less = Math.abs(b);
        // Some 45 steps are the most that two ints can take.
        for (int i = 0; i < 100 && less != 0; i++) {
            int left = greater % less;
            greater = less;
            less = left;
        }
        return greater;
    }

    private boolean isShownBy(Fault fault, int x) {
        Meter meter = meterAt(fault.meter);
        return meter != null && codeWith(fault, x) != meter.codeOf(x);
    }

    private int codeWith(Fault fault, int x) {
        Meter meter = meterAt(fault.meter);
        Part part = partAt(fault.meter, fault.part);
        if (meter == null || part == null) {
            return 0;
        }
        int own = part.miss;
        part.miss = fault.miss;
        int code = meter.codeOf(x);
        part.miss = own;
        return code;
    }

    private int faultsShownBy(int x) {
        int bits = 0;
        for (int i = 0; i < faultCount; i++) {
            Fault fault = faultAt(i);
            if (fault != null && isShownBy(fault, x)) {
                bits |= 1 << i;
            }
        }
        return bits;
    }

    private void tellApart(int x) {
        for (int i = 0; i < faultCount && i < faultCodes.length; i++) {
            Fault fault = faultAt(i);
            faultCodes[i] = fault == null ? 0 : codeWith(fault, x);
        }
        for (int i = 0; i < faultCount && i < faultCodes.length && i < toldApart.length; i++) {
            for (int j = i + 1; j < faultCount && j < faultCodes.length; j++) {
                if (faultCodes[i] != faultCodes[j]) {
                    toldApart[i] |= 1 << j;
                }
            }
        }
    }

    private boolean areAlike(int i, int j) {
        Fault one = faultAt(i);
        Fault other = faultAt(j);
        return one != null && other != null && one.meter == other.meter
                && i < toldApart.length && (toldApart[i] >> j & 1) == 0;
    }

    /** Every act begins here, so that no codes of before it stay in the table. */
    private Act newAct(int what, int m, int k) {
        tableOf = NONE;
        return past.addAct(what, m, k);
    }

    private void takeBack(Act act) {
        Meter meter = meterAt(act.meter);
        Part part = partAt(act.meter, act.part);
        if (act.what == ACT_RANGE) {
            top = act.old;
        } else if (act.what == ACT_METER && meterCount > 0) {
            meterCount--;
        } else if (act.what == ACT_PART && meter != null) {
            meter.dropPart();
            meter.giveWorths(act.worths);
        } else if (act.what == ACT_MISS && part != null) {
            part.miss = act.old;
        } else if (act.what == ACT_WORTH && part != null) {
            part.worth = act.old;
        } else if (act.what == ACT_MEND && meter != null) {
            meter.giveWorths(act.worths);
        }
    }

    private void dropGoneFaults() {
        int held = faultCount;
        int kept = 0;
        for (int i = 0; i < held && i < faults.length; i++) {
            Fault fault = faultAt(i);
            Fault place = faultAt(kept);
            if (fault != null && place != null && partAt(fault.meter, fault.part) != null) {
                place.become(fault.meter, fault.part, fault.miss);
                kept++;
            }
        }
        faultCount = kept;
    }

    /** A PART of a METER. */
    private static final class Part {
        private int size;
        private int miss;
        private int worth;
        private int bound;

        private int asItIs() {
            return size + miss;
        }
    }

    /** A METER, and what it told of the number read last: code, TRAIL and REST. */
    private static final class Meter {
        private final Part[] parts = new Part[MOST_PARTS];
        private int kind;
        private int count;
        private int code;
        private int trail;
        private int rest;

        private Meter() {
            for (int k = 0; k < parts.length; k++) {
                parts[k] = new Part();
            }
        }

        private void begin(int newKind) {
            kind = newKind;
            count = 0;
        }

        private Part partAt(int k) {
            return k >= 0 && k < count && k < parts.length ? parts[k] : null;
        }

        private boolean isStaged() {
            return kind == STAGES || kind == FOLDED;
        }

        private void addPart(int size, int bound) {
            if (count >= parts.length) {
                return;
            }
            count++;
            Part made = partAt(count - 1);
            if (made == null) {
                return;
            }
            made.size = size;
            made.miss = 0;
            made.worth = kind == BALANCE ? size : 1;
            made.bound = isStaged() ? bound : 0;
            if (isStaged()) {
                doubleWorths();
            }
        }

        private void dropPart() {
            if (count > 0) {
                count--;
            }
        }

        private void doubleWorths() {
            int worth = 1;
            for (int k = count - 1; k >= 0; k--) {
                Part part = partAt(k);
                if (part != null) {
                    part.worth = worth;
                }
                worth = Math.min(MOST_SIZE, worth * 2);
            }
        }

        private void mendWorths() {
            for (int k = 0; k < count; k++) {
                Part part = partAt(k);
                if (part != null) {
                    part.worth = part.asItIs();
                }
            }
        }

        private void keepWorths(int[] row) {
            for (int k = 0; k < count && k < row.length; k++) {
                Part part = partAt(k);
                row[k] = part == null ? 0 : part.worth;
            }
        }

        private void giveWorths(int[] row) {
            for (int k = 0; k < count && k < row.length; k++) {
                Part part = partAt(k);
                if (part != null) {
                    part.worth = row[k];
                }
            }
        }

        private int codeOf(int x) {
            code = 0;
            trail = 0;
            rest = x;
            if (kind == BALANCE) {
                weigh();
            } else if (isStaged()) {
                passStages();
            } else {
                passEdges(x);
            }
            return code;
        }

        private void passEdges(int x) {
            int edge = 0;
            for (int k = 0; k < count; k++) {
                Part part = partAt(k);
                if (part == null) {
                    continue;
                }
                edge = kind == LADDER ? edge + part.asItIs() : part.asItIs();
                if (edge <= x) {
                    rest = code == 0 ? x - edge : Math.min(rest, x - edge);
                    code++;
                    trail |= 1 << k;
                }
            }
        }

        private void weigh() {
            for (int k = 0; k < count; k++) {
                Part part = partAt(k);
                // All that is on with the PART is not above the number: the PART is not above REST.
                if (part != null && part.asItIs() <= rest) {
                    rest -= part.asItIs();
                    code += part.worth;
                    trail |= 1 << k;
                }
            }
        }

        private void passStages() {
            boolean odd = false;
            for (int k = 0; k < count; k++) {
                Part part = partAt(k);
                if (part == null) {
                    continue;
                }
                boolean bit = rest >= part.bound;
                if (bit) {
                    odd = !odd;
                    trail |= 1 << k;
                    rest = kind == FOLDED ? part.asItIs() - rest : rest - part.asItIs();
                }
                if (kind == FOLDED ? odd : bit) {
                    code += part.worth;
                }
                rest = Math.max(-MOST_REST, Math.min(MOST_REST, rest * 2));
            }
        }

        private int together() {
            int sum = 0;
            for (int k = 0; k < count; k++) {
                Part part = partAt(k);
                sum += part == null ? 0 : part.asItIs();
            }
            return sum;
        }

        private int firstUncovered() {
            int behind = together();
            for (int k = 0; k < count; k++) {
                Part part = partAt(k);
                int own = part == null ? 0 : part.asItIs();
                behind -= own;
                if (own < 0 || own > behind + 1) {
                    return k;
                }
            }
            return NOWHERE;
        }
    }

    /** The codes of one METER, of 0 to RANGE. */
    private static final class Table {
        private final int[] row = new int[MOST_RANGE + 1];
        // A bit for each code that there can be, from the least on.
        private final long[] met = new long[2 * MOST_CODE / 64 + 1];
        private int last = NONE;

        private void fillFrom(Meter meter, int newLast) {
            last = Math.min(newLast, row.length - 1);
            for (int x = 0; x <= last && x < row.length; x++) {
                row[x] = meter.codeOf(x);
            }
        }

        private int codeAt(int x) {
            return x >= 0 && x < row.length ? row[x] : 0;
        }

        private boolean endsSpan(int x) {
            return x >= last || codeAt(x + 1) != codeAt(x);
        }

        private int spanCount() {
            int found = 0;
            for (int x = 0; x <= last; x++) {
                if (endsSpan(x)) {
                    found++;
                }
            }
            return found;
        }

        private int spanStart(int i) {
            int place = 0;
            for (int x = 0; x <= last; x++) {
                if (place == i) {
                    return x;
                }
                if (endsSpan(x)) {
                    place++;
                }
            }
            return NONE;
        }

        private int spanEnd(int first) {
            for (int x = first; x <= last; x++) {
                if (endsSpan(x)) {
                    return x;
                }
            }
            return last;
        }

        private int widestSpan() {
            int most = 0;
            int mostPlace = 0;
            int place = 0;
            int width = 0;
            for (int x = 0; x <= last; x++) {
                width++;
                if (endsSpan(x)) {
                    if (width > most) {
                        most = width;
                        mostPlace = place;
                    }
                    place++;
                    width = 0;
                }
            }
            return SPAN_UNIT * most + mostPlace;
        }

        private int unlikeFrom(int least) {
            Arrays.fill(met, 0L);
            int found = 0;
            for (int x = 0; x <= last; x++) {
                if (codeAt(x) >= least && isFirstMet(codeAt(x))) {
                    found++;
                }
            }
            return found;
        }

        private boolean isFirstMet(int code) {
            int place = code + MOST_CODE;
            int word = place >> 6;
            if (word < 0 || word >= met.length) {
                return false;
            }
            long bit = 1L << (place & 63);
            boolean first = (met[word] & bit) == 0L;
            met[word] |= bit;
            return first;
        }

        private int greatestCode() {
            int most = codeAt(0);
            for (int x = 1; x <= last; x++) {
                most = Math.max(most, codeAt(x));
            }
            return most;
        }

        private int firstBack() {
            for (int x = 1; x <= last; x++) {
                if (codeAt(x) < codeAt(x - 1)) {
                    return x;
                }
            }
            return NOWHERE;
        }

        private int edgeOf(int k) {
            for (int x = 0; x <= last; x++) {
                if (codeAt(x) >= k) {
                    return x;
                }
            }
            return last + 1;
        }

        /** WORST, or its k; the codes must not go back and have n as the greatest. */
        private int worstOfLine(int n, boolean wantsPlace) {
            int first = edgeOf(1);
            int whole = edgeOf(n) - first;
            int worst = 0;
            int worstPlace = 1;
            int k = 1;
            for (int x = first; x <= last; x++) {
                // Codes don't go back, so the number is EDGE of all codes up to its own not met yet.
                for (; k <= codeAt(x); k++) {
                    int off = Math.abs((n - 1) * (x - first) - (k - 1) * whole);
                    if (off > worst) {
                        worst = off;
                        worstPlace = k;
                    }
                }
            }
            return wantsPlace ? worstPlace : worst;
        }
    }

    /** The NOISE: little sums, each so often. */
    private static final class Noise {
        private final int[] sum = new int[MOST_SUMS];
        private final int[] times = new int[MOST_SUMS];
        private int held;

        private void addSum(int d, int often) {
            if (held < 0 || held >= sum.length || held >= times.length) {
                return;
            }
            sum[held] = d;
            times[held] = often;
            held++;
        }

        private int weighedCodes(Meter meter, int x, int top) {
            int all = 0;
            for (int i = 0; i < held && i < sum.length && i < times.length; i++) {
                int moved = Math.max(0, Math.min(top, x + sum[i]));
                all += times[i] * meter.codeOf(moved);
            }
            return all;
        }

        private int timesTogether() {
            int all = 0;
            for (int i = 0; i < held && i < times.length; i++) {
                all += times[i];
            }
            return all;
        }
    }

    /** A FAULT: a PART of a METER has another MISS. */
    private static final class Fault {
        private int meter;
        private int part;
        private int miss;

        private void become(int m, int k, int v) {
            meter = m;
            part = k;
            miss = v;
        }
    }

    /** The search for the fewest numbers that show all FAULTS that can be shown. */
    private static final class Cover {
        private static final int SETS = 1 << MOST_FAULTS;
        private static final int FAR = 1_000;

        // The fewest numbers that together show just a set of FAULTS.
        private final int[] fewestFor = new int[SETS];
        private final int[] masks = new int[SETS];
        private final int[] isMask = new int[SETS];
        private int maskCount;
        private int all;

        private void begin() {
            Arrays.fill(fewestFor, FAR);
            Arrays.fill(isMask, 0);
            fewestFor[0] = 0;
            maskCount = 0;
            all = 0;
        }

        private void addMask(int mask) {
            if (mask <= 0 || mask >= isMask.length || isMask[mask] != 0) {
                return;
            }
            if (maskCount < 0 || maskCount >= masks.length) {
                return;
            }
            isMask[mask] = 1;
            masks[maskCount] = mask;
            maskCount++;
            all |= mask;
        }

        /** A set only grows by a mask, so sets in rising order are told for good when met. */
        private int fewest() {
            for (int set = 0; set < all && set < fewestFor.length; set++) {
                if (fewestFor[set] < FAR) {
                    growFrom(set);
                }
            }
            return all >= 0 && all < fewestFor.length ? fewestFor[all] : 0;
        }

        private void growFrom(int set) {
            if (set < 0 || set >= fewestFor.length) {
                return;
            }
            int next = fewestFor[set] + 1;
            for (int i = 0; i < maskCount && i < masks.length; i++) {
                int grown = set | masks[i];
                if (grown >= 0 && grown < fewestFor.length && next < fewestFor[grown]) {
                    fewestFor[grown] = next;
                }
            }
        }
    }

    /** An act, and what it needs to be taken back. */
    private static final class Act {
        private final int[] worths = new int[MOST_PARTS];
        private int what;
        private int meter;
        private int part;
        private int old;
    }

    /** The latest acts, in a ring. */
    private static final class Past {
        private final Act[] ring = new Act[MOST_ACTS];
        private int next;
        private int held;

        private Past() {
            for (int i = 0; i < ring.length; i++) {
                ring[i] = new Act();
            }
        }

        private Act slotAt(int i) {
            return i >= 0 && i < ring.length ? ring[i] : null;
        }

        private Act addAct(int what, int m, int k) {
            Act act = slotAt(next);
            if (act == null) {
                return null;
            }
            act.what = what;
            act.meter = m;
            act.part = k;
            next = (next + 1) % MOST_ACTS;
            held = Math.min(MOST_ACTS, held + 1);
            return act;
        }

        private int latestPlace() {
            return (next + MOST_ACTS - 1) % MOST_ACTS;
        }

        private Act latest() {
            return held > 0 ? slotAt(latestPlace()) : null;
        }

        private void dropLatest() {
            if (held > 0) {
                next = latestPlace();
                held--;
            }
        }
    }
}
