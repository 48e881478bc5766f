import java.util.function.Supplier;
import java.util.function.ToLongFunction;

/**
 * Term IV and all that promises 2 to 36 refuse: what each refused call answers, which TROUBLE it
 * leaves, in which order refusals are named, and that it changed nothing else. Each row is asked of
 * a bench of its own for each TROUBLE that may stand before it.
 */
public final class RefusalTest extends Checks {
    /** Of a call that tells no TROUBLE: that of the call before stays. */
    private static final int STAYS = -1;

    // The METERS of rich(): one of each kind by its own number, one without PARTS, one with 16.
    private static final int BARE = 5;
    private static final int WIDE = 6;
    private static final int[] NO_METER = {-1, 7, 8, LEAST, MOST};
    private static final int[] NO_PART = {-1, 3, 16, LEAST, MOST};
    private static final int[] NO_NUMBER = {-1, 61, 4096, LEAST, MOST};
    private static final int[] NO_SIZE = {8001, -8001, LEAST, MOST};
    private static final int[] NO_MISS = {501, -501, LEAST, MOST};

    private static StepMeters rich() {
        StepMeters x = new StepMeters();
        x.range(60);
        add(x, 0, 0, 10, 20, 30);
        add(x, 1, 0, 5, 7, 9);
        add(x, 2, 0, 16, 8, 4);
        add(x, 3, 32, 32, 32, 32);
        add(x, 4, 32, 60, 60, 60);
        x.meter(0);
        add(x, 0, 0, 1, 2, 3, 4, 5, 6, 7, 8, 9, 10, 11, 12, 13, 14, 15, 16);
        x.miss(0, 1, 3);
        x.worth(2, 1, 9);
        x.miss(2, 0, 1);
        x.worth(3, 0, 2);
        x.noise(3, 2);
        x.noise(-4, 1);
        x.fault(0, 0, 2);
        x.fault(2, 1, -3);
        x.fault(4, 2, 5);
        return x;
    }

    /** No room is left: METERS, PARTS of METER 0, little sums, FAULTS, acts. */
    private static StepMeters full() {
        StepMeters x = new StepMeters();
        x.range(70);
        for (int m = 0; m < 8; m++) {
            x.meter(m % 5);
        }
        for (int k = 0; k < 16; k++) {
            x.part(0, 4 * k, 0);
        }
        for (int i = 0; i < 60; i++) {
            x.miss(0, i % 16, i % 7);
        }
        for (int i = 0; i < 8; i++) {
            x.noise(i, 1 + i);
        }
        for (int i = 0; i < 10; i++) {
            x.fault(0, i, 3);
        }
        return x;
    }

    private static int meterWith(StepMeters x, int parts) {
        int m = 0;
        while (m < 7 && x.kind(m, 1) != parts) {
            m++;
        }
        return m;
    }

    /** A call that leaves this TROUBLE and changes nothing, in both benches. */
    private static void leave(StepMeters x, int trouble) {
        switch (trouble) {
            case 0: x.spans(0); break;
            case 1: x.range(0); break;
            case 2: x.spans(-1); break;
            case 3: x.part(meterWith(x, 16), 0, 0); break;
            case 4: x.mend(0); break;
            default: x.line(meterWith(x, 0), 0); break;
        }
        due("TROUBLE before", x.trouble(), trouble);
    }

    private static void on(Supplier<StepMeters> maker, String call, ToLongFunction<StepMeters> ask,
            long want, int trouble) {
        String before = told(maker.get());
        for (int first = 0; first <= 5; first++) {
            StepMeters x = maker.get();
            leave(x, first);
            due(call, ask.applyAsLong(x), want);
            due(call + " then trouble()", x.trouble(), trouble == STAYS ? first : trouble);
            due(call + " again", ask.applyAsLong(x), want);
            due(call + " changes nothing:", told(x), before);
        }
    }

    private static void row(String call, ToLongFunction<StepMeters> ask, long want, int trouble) {
        on(RefusalTest::rich, call, ask, want, trouble);
    }

    private static long bit(boolean b) {
        return b ? 1 : 0;
    }

    private static void range() {
        of("2: false (1)");
        for (int r : new int[] {0, -1, 4096, LEAST, MOST}) {
            row("range(" + r + ")", x -> bit(x.range(r)), 0, 1);
        }
    }

    private static void meter() {
        of("3: NONE: 1");
        for (int kind : new int[] {-1, 5, LEAST, MOST}) {
            row("meter(" + kind + ")", x -> x.meter(kind), -1, 1);
        }
    }

    private static void part() {
        of("4: NONE: 2; 1; 3");
        for (int m : NO_METER) {
            row("part of METER " + m, x -> x.part(m, 1, 1), -1, 2);
            row("2 ahead of 1: SIZE", x -> x.part(m, 8001, 1), -1, 2);
            row("2 ahead of 1: BOUND", x -> x.part(m, 1, 8001), -1, 2);
        }
        for (int m = 0; m <= 4; m++) {
            int to = m;
            for (int size : NO_SIZE) {
                row("part, SIZE " + size, x -> x.part(to, size, 0), -1, 1);
            }
        }
        for (int bound : NO_SIZE) {
            row("stages, BOUND " + bound, x -> x.part(3, 0, bound), -1, 1);
            row("folded, BOUND " + bound, x -> x.part(4, 0, bound), -1, 1);
        }
        row("a 17th", x -> x.part(WIDE, 0, 0), -1, 3);
        row("a 17th, of no matter its BOUND", x -> x.part(WIDE, 0, 8001), -1, 3);
        row("1 ahead of 3", x -> x.part(WIDE, 8001, 0), -1, 1);
        for (int kind = 3; kind <= 4; kind++) {
            StepMeters x = bench(60, kind, 0, 0, 0, 0, 0, 0, 0, 0, 0, 0, 0, 0, 0, 0, 0, 0, 0);
            refused(x, "1 ahead of 3: SIZE", x.part(0, -8001, 0), -1, 1);
            refused(x, "1 ahead of 3: BOUND", x.part(0, 0, -8001), -1, 1);
            refused(x, "a 17th", x.part(0, 0, 0), -1, 3);
        }
    }

    private static void miss() {
        of("5: false: 2; 1");
        for (int m : NO_METER) {
            row("miss of METER " + m, x -> bit(x.miss(m, 0, 1)), 0, 2);
            row("2 ahead of 1", x -> bit(x.miss(m, 0, 501)), 0, 2);
        }
        for (int k : NO_PART) {
            row("miss of PART " + k, x -> bit(x.miss(0, k, 1)), 0, 2);
            row("2 ahead of 1", x -> bit(x.miss(0, k, -501)), 0, 2);
        }
        row("a METER without PARTS", x -> bit(x.miss(BARE, 0, 1)), 0, 2);
        row("PART 16", x -> bit(x.miss(WIDE, 16, 1)), 0, 2);
        for (int v : NO_MISS) {
            row("miss " + v, x -> bit(x.miss(2, 2, v)), 0, 1);
        }
    }

    private static void worth() {
        of("6: false: 2; 4 (kinds 0, 1); 1");
        for (int m : NO_METER) {
            row("worth of METER " + m, x -> bit(x.worth(m, 0, 1)), 0, 2);
            row("2 ahead of 1", x -> bit(x.worth(m, 0, 8001)), 0, 2);
        }
        for (int k : NO_PART) {
            row("worth of PART " + k, x -> bit(x.worth(2, k, 1)), 0, 2);
            row("2 ahead of 1", x -> bit(x.worth(2, k, 8001)), 0, 2);
            row("2 ahead of 4: EDGES", x -> bit(x.worth(0, k, 1)), 0, 2);
            row("2 ahead of 4: LADDER", x -> bit(x.worth(1, k, 8001)), 0, 2);
        }
        row("2 ahead of 4: without PARTS", x -> bit(x.worth(BARE, 0, 1)), 0, 2);
        row("PART 16", x -> bit(x.worth(WIDE, 16, 1)), 0, 2);
        for (int m = 0; m <= 1; m++) {
            int of = m;
            row("worth in " + m, x -> bit(x.worth(of, 0, 1)), 0, 4);
            row("4 ahead of 1", x -> bit(x.worth(of, 2, -8001)), 0, 4);
        }
        for (int m = 2; m <= 4; m++) {
            int of = m;
            for (int v : NO_SIZE) {
                row("worth " + v, x -> bit(x.worth(of, 1, v)), 0, 1);
            }
        }
    }

    private static void partOf() {
        of("7: -10,000 if there is none such");
        for (int m : NO_METER) {
            row("partOf METER " + m, x -> x.partOf(m, 0, 0), -10000, STAYS);
        }
        for (int k : NO_PART) {
            row("partOf PART " + k, x -> x.partOf(3, k, 3), -10000, STAYS);
        }
        for (int what : new int[] {-1, 4, LEAST, MOST}) {
            row("partOf what " + what, x -> x.partOf(3, 0, what), -10000, STAYS);
        }
        row("a METER without PARTS", x -> x.partOf(BARE, 0, 0), -10000, STAYS);
        row("PART 16", x -> x.partOf(WIDE, 16, 0), -10000, STAYS);
    }

    private static void kind() {
        of("8: what 0 the kind, 1 PARTS; NONE");
        for (int m : NO_METER) {
            row("kind of METER " + m, x -> x.kind(m, 0), -1, STAYS);
            row("PARTS of METER " + m, x -> x.kind(m, 1), -1, STAYS);
        }
        for (int what : new int[] {-1, 2, LEAST, MOST}) {
            row("kind, what " + what, x -> x.kind(0, what), -1, STAYS);
        }
    }

    private static void readTrailRest() {
        of("9 to 11: -2^31, NONE, -2^31 if there is no such METER or number");
        for (int m : NO_METER) {
            row("read of METER " + m, x -> x.read(m, 0), LEAST, STAYS);
            row("trail of METER " + m, x -> x.trail(m, 0), -1, STAYS);
            row("rest of METER " + m, x -> x.rest(m, 0), LEAST, STAYS);
        }
        for (int n : NO_NUMBER) {
            row("read(" + n + ")", x -> x.read(0, n), LEAST, STAYS);
            row("trail(" + n + ")", x -> x.trail(1, n), -1, STAYS);
            row("rest(" + n + ")", x -> x.rest(2, n), LEAST, STAYS);
        }
    }

    private static void ofOneMeter() {
        of("12, 14 to 18, 33: NONE (2)");
        for (int m : NO_METER) {
            row("spans of METER " + m, x -> x.spans(m), -1, 2);
            row("codes of METER " + m, x -> x.codes(m), -1, 2);
            row("lacks of METER " + m, x -> x.lacks(m), -1, 2);
            row("back of METER " + m, x -> x.back(m), -1, 2);
            row("widest of METER " + m, x -> x.widest(m), -1, 2);
            row("edge of METER " + m, x -> x.edge(m, 1), -1, 2);
            row("beyond of METER " + m, x -> x.beyond(m), -1, 2);
        }
    }

    private static void span() {
        of("13: -2^31 if there is none such");
        for (int m : NO_METER) {
            row("span of METER " + m, x -> x.span(m, 0, 0), LEAST, STAYS);
        }
        // METER 0 has EDGES 10, 23, 30: four SPANS.
        for (int i : new int[] {-1, 4, LEAST, MOST}) {
            row("span " + i, x -> x.span(0, i, 0), LEAST, STAYS);
            row("span " + i + " last", x -> x.span(0, i, 1), LEAST, STAYS);
            row("span " + i + " code", x -> x.span(0, i, 2), LEAST, STAYS);
        }
        for (int what : new int[] {-1, 3, LEAST, MOST}) {
            row("span what " + what, x -> x.span(0, 0, what), LEAST, STAYS);
        }
    }

    private static void line() {
        of("19: NONE: 2; 1 (what); 5");
        for (int m : NO_METER) {
            row("line of METER " + m, x -> x.line(m, 0), -1, 2);
            row("2 ahead of 1", x -> x.line(m, 2), -1, 2);
        }
        for (int what : new int[] {-1, 2, LEAST, MOST}) {
            row("line what " + what, x -> x.line(0, what), -1, 1);
            row("1 ahead of 5", x -> x.line(BARE, what), -1, 1);
        }
        row("too few codes", x -> x.line(BARE, 0), -1, 5);
        row("too few codes", x -> x.line(BARE, 1), -1, 5);
        // Its WORTHS are 2, 2, 1: at 31 it reads 2 + 1 (62, 60 behind), at 32 it reads 2 (0, 0).
        row("it goes back", x -> x.line(3, 0), -1, 5);
        row("it goes back", x -> x.line(3, 1), -1, 5);
    }

    private static void balances() {
        of("20 to 22: 2, else 4");
        for (int m : NO_METER) {
            row("covered of METER " + m, x -> x.covered(m), -1, 2);
            row("tail of METER " + m, x -> x.tail(m), -1, 2);
            row("mend of METER " + m, x -> bit(x.mend(m)), 0, 2);
        }
        for (int m : new int[] {0, 1, 3, 4, BARE, WIDE}) {
            row("covered of " + m, x -> x.covered(m), -1, 4);
            row("tail of " + m, x -> x.tail(m), -1, 4);
            row("mend of " + m, x -> bit(x.mend(m)), 0, 4);
        }
    }

    private static void count() {
        of("23: NONE: 2; 1 (not 0 <= from <= to <= RANGE, step below 1)");
        for (int m : NO_METER) {
            row("count of METER " + m, x -> x.count(m, 0, 60, 1, 0), -1, 2);
            row("2 ahead of 1", x -> x.count(m, -1, 61, 0, 0), -1, 2);
        }
        int[][] ends = {{-1, 60}, {-1, -1}, {0, 61}, {61, 61}, {1, 0}, {60, 59}, {LEAST, 60}, {0, MOST},
            {MOST, MOST}, {LEAST, LEAST}, {MOST, LEAST}, {0, LEAST}, {MOST, 60}};
        for (int[] end : ends) {
            row("count from " + end[0] + " to " + end[1], x -> x.count(0, end[0], end[1], 1, 0), -1, 1);
        }
        for (int step : new int[] {0, -1, LEAST}) {
            row("count, step " + step, x -> x.count(0, 0, 60, step, 0), -1, 1);
            row("count of one number, step " + step, x -> x.count(0, 5, 5, step, 0), -1, 1);
        }
    }

    private static void noise() {
        of("24: NONE: 1");
        for (int d : new int[] {101, -101, LEAST, MOST}) {
            row("noise(" + d + ", 1)", x -> x.noise(d, 1), -1, 1);
        }
        for (int times : new int[] {0, -1, 1001, LEAST, MOST}) {
            row("noise(0, " + times + ")", x -> x.noise(0, times), -1, 1);
        }
    }

    private static void mean() {
        of("26: NONE (status is 2): no such METER, number");
        for (int m : NO_METER) {
            row("mean of METER " + m, x -> x.mean(m, 0, false), -1, 2);
            row("mean of METER " + m, x -> x.mean(m, 0, true), -1, 2);
        }
        for (int n : NO_NUMBER) {
            row("mean at " + n, x -> x.mean(2, n, false), -1, 2);
            row("mean at " + n, x -> x.mean(2, n, true), -1, 2);
        }
        StepMeters still = bench(60, 2, 0, 5);
        refused(still, "without NOISE too", still.mean(0, 61, true), -1, 2);
        refused(still, "without NOISE too", still.mean(0, -1, false), -1, 2);
        refused(still, "without NOISE too", still.mean(1, 0, false), -1, 2);
    }

    private static void fault() {
        of("27: NONE: 2; 1");
        for (int m : NO_METER) {
            row("fault of METER " + m, x -> x.fault(m, 0, 1), -1, 2);
            row("2 ahead of 1", x -> x.fault(m, 0, 501), -1, 2);
        }
        for (int k : NO_PART) {
            row("fault of PART " + k, x -> x.fault(0, k, 1), -1, 2);
            row("2 ahead of 1", x -> x.fault(0, k, -501), -1, 2);
        }
        row("a METER without PARTS", x -> x.fault(BARE, 0, 1), -1, 2);
        row("PART 16", x -> x.fault(WIDE, 16, 1), -1, 2);
        for (int v : NO_MISS) {
            row("fault " + v, x -> x.fault(2, 2, v), -1, 1);
        }
    }

    private static void shownShowing() {
        of("29: NONE (2)");
        for (int i : new int[] {-1, 3, 10, LEAST, MOST}) {
            row("shown(" + i + ")", x -> x.shown(i), -1, 2);
        }
        StepMeters none = bench(60, 0, 0, 5);
        refused(none, "without FAULTS", none.shown(0), -1, 2);
        of("31: NONE if there is no such number");
        for (int n : NO_NUMBER) {
            row("showing(" + n + ")", x -> x.showing(n), -1, STAYS);
        }
    }

    private static void joined() {
        of("34: -2^31: 2 (METERS, number); 1 (factor; the REST is beyond)");
        for (int m : NO_METER) {
            row("the first " + m, x -> x.joined(m, 0, 1, 0), LEAST, 2);
            row("the other " + m, x -> x.joined(0, m, 1, 0), LEAST, 2);
            row("2 ahead of 1", x -> x.joined(m, 0, 1001, 0), LEAST, 2);
            row("2 ahead of 1", x -> x.joined(0, m, -1001, 0), LEAST, 2);
            // METER 3 takes nothing off 31 and doubles it three times: 248 is beyond.
            row("2 ahead of the REST", x -> x.joined(3, m, 1, 31), LEAST, 2);
        }
        for (int n : NO_NUMBER) {
            row("the number " + n, x -> x.joined(2, 0, 1, n), LEAST, 2);
            row("2 ahead of 1", x -> x.joined(2, 0, 1001, n), LEAST, 2);
        }
        for (int factor : new int[] {1001, -1001, LEAST, MOST}) {
            row("factor " + factor, x -> x.joined(2, 0, factor, 9), LEAST, 1);
        }
    }

    private static void size() {
        of("36: NONE for others");
        for (int what : new int[] {-1, 5, LEAST, MOST}) {
            row("size(" + what + ")", x -> x.size(what), -1, STAYS);
        }
    }

    private static void noRoom() {
        of("3, 4, 24, 27: no room: 3");
        Supplier<StepMeters> full = RefusalTest::full;
        on(full, "a ninth METER", x -> x.meter(0), -1, 3);
        on(full, "1 ahead of 3", x -> x.meter(5), -1, 1);
        on(full, "1 ahead of 3", x -> x.meter(-1), -1, 1);
        on(full, "a 17th PART", x -> x.part(0, 1, 0), -1, 3);
        on(full, "1 ahead of 3", x -> x.part(0, 8001, 0), -1, 1);
        on(full, "no METER 8", x -> x.part(8, 1, 0), -1, 2);
        on(full, "a ninth little sum", x -> x.noise(0, 1), -1, 3);
        on(full, "1 ahead of 3", x -> x.noise(101, 1), -1, 1);
        on(full, "1 ahead of 3", x -> x.noise(0, 1001), -1, 1);
        on(full, "1 ahead of 3", x -> x.noise(0, 0), -1, 1);
        on(full, "an 11th FAULT", x -> x.fault(0, 0, 1), -1, 3);
        on(full, "1 ahead of 3", x -> x.fault(0, 0, 501), -1, 1);
        on(full, "2 ahead of 3", x -> x.fault(0, 16, 1), -1, 2);
        on(full, "2 ahead of 3", x -> x.fault(8, 0, 1), -1, 2);
        on(full, "no FAULT 10", x -> x.shown(10), -1, 2);
    }

    private static void refusedIsNoAct() {
        of("35: the latest act that was accepted");
        String due = tellUndos(full());
        StepMeters x = full();
        refused(x, "range", x.range(0), 1);
        refused(x, "meter", x.meter(0), -1, 3);
        refused(x, "part", x.part(0, 1, 0), -1, 3);
        refused(x, "miss", x.miss(0, 0, 501), 1);
        refused(x, "worth", x.worth(0, 0, 1), 4);
        refused(x, "mend", x.mend(0), 4);
        refused(x, "fault", x.fault(0, 0, 1), -1, 3);
        refused(x, "noise", x.noise(0, 1), -1, 3);
        due("all sixty taken back then:", tellUndos(x), due);
    }

    private static String tellUndos(StepMeters x) {
        StringBuilder all = new StringBuilder();
        for (int i = 0; i < 61; i++) {
            all.append(x.undo()).append(' ').append(x.partOf(0, (59 - Math.min(59, i)) % 16, 1)).append(' ');
        }
        return all.append(told(x)).toString();
    }

    // ---- accepted ones

    /** A call that is accepted, asked once of a bench for each TROUBLE before it. */
    private static void fine(String call, ToLongFunction<StepMeters> ask, long want, int trouble) {
        for (int first = 0; first <= 5; first++) {
            StepMeters x = rich();
            leave(x, first);
            due(call, ask.applyAsLong(x), want);
            due(call + " then trouble()", x.trouble(), trouble == STAYS ? first : trouble);
        }
    }

    private static void acceptedChanges() {
        of("IV: 0 it wasn't (refused)");
        fine("range(1)", x -> bit(x.range(1)), 1, 0);
        fine("range(4095)", x -> bit(x.range(4095)), 1, 0);
        fine("meter(0)", x -> x.meter(0), 7, 0);
        fine("meter(4)", x -> x.meter(4), 7, 0);
        fine("part(8000, 8000)", x -> x.part(3, 8000, 8000), 4, 0);
        fine("part(-8000, -8000)", x -> x.part(4, -8000, -8000), 4, 0);
        fine("miss(500)", x -> bit(x.miss(0, 2, 500)), 1, 0);
        fine("miss(-500)", x -> bit(x.miss(WIDE, 15, -500)), 1, 0);
        fine("worth(8000)", x -> bit(x.worth(2, 0, 8000)), 1, 0);
        fine("worth(-8000)", x -> bit(x.worth(4, 2, -8000)), 1, 0);
        fine("mend", x -> bit(x.mend(2)), 1, 0);
        fine("noise(100, 1000)", x -> x.noise(100, 1000), 3, 0);
        fine("noise(-100, 1)", x -> x.noise(-100, 1), 3, 0);
        fine("fault(500)", x -> x.fault(0, 2, 500), 4, 0);
        fine("fault(-500)", x -> x.fault(WIDE, 15, -500), 4, 0);
        of("IV: of the latest call that may be refused (still, clear, undo can't be)");
        fine("still", x -> x.still(), 2, STAYS);
        fine("clear", x -> x.clear(), 3, STAYS);
        fine("undo", x -> x.undo(), 1, STAYS);
    }

    /** A call that only reads: accepted, and it changes nothing. */
    private static void reads(String call, ToLongFunction<StepMeters> ask, long want, int trouble) {
        row(call, ask, want, trouble);
    }

    private static void acceptedReads() {
        of("IV: 0 it wasn't (refused)");
        reads("spans", x -> x.spans(0), 4, 0);
        reads("codes", x -> x.codes(WIDE), 17, 0);
        reads("lacks", x -> x.lacks(BARE), 0, 0);
        reads("back", x -> x.back(0), -2, 0);
        reads("widest", x -> x.widest(0), 310003, 0);
        reads("edge", x -> x.edge(0, 2), 23, 0);
        // EDGES 10, 23, 30: 2 * 13 - 20 is 6.
        reads("line", x -> x.line(0, 0), 6, 0);
        reads("line's k", x -> x.line(0, 1), 2, 0);
        reads("covered", x -> x.covered(2), 0, 0);
        // PARTS 17, 8, 4 with WORTHS 16, 9, 4: 3 at 3, 7 less 4, 11 less 9, 16 less 13, 20 less 16 ..
        reads("tail", x -> x.tail(2), 4, 0);
        reads("count", x -> x.count(0, 0, 60, 1, 3), 31, 0);
        // 3 twice and 0 once, of METER 6.
        reads("mean", x -> x.mean(WIDE, 0, false), 2, 0);
        reads("mean's lower number", x -> x.mean(WIDE, 0, true), 1, 0);
        reads("shown", x -> x.shown(0), 10, 0);
        reads("beyond", x -> x.beyond(0), -2, 0);
        reads("joined", x -> x.joined(0, WIDE, 1000, 25), 2002, 0);
        of("IV: of the latest call that may be refused (these tell none)");
        reads("partOf", x -> x.partOf(0, 1, 1), 3, STAYS);
        reads("kind", x -> x.kind(4, 0), 4, STAYS);
        reads("read", x -> x.read(0, 60), 3, STAYS);
        reads("trail", x -> x.trail(0, 60), 7, STAYS);
        reads("rest", x -> x.rest(0, 60), 30, STAYS);
        reads("span", x -> x.span(0, 3, 1), 60, STAYS);
        // At 10 EDGES read 0, not 1; the BALANCE 5 + 4, not 8. No REST of the last stage is read.
        reads("showing", x -> x.showing(10), 3, STAYS);
        reads("shows", x -> x.shows(), 1, STAYS);
        reads("alike", x -> x.alike(), 0, STAYS);
        reads("size", x -> x.size(0), 60, STAYS);
        reads("trouble", x -> 0, 0, STAYS);
    }

    private static void undoOfNothing() {
        of("35: 0 if there is none");
        StepMeters x = new StepMeters();
        String before = told(x);
        due("undo", x.undo(), 0);
        due("undo", x.undo(), 0);
        due("changes nothing:", told(x), before);
        x.range(0);
        due("undo", x.undo(), 0);
        due("TROUBLE stays", x.trouble(), 1);
    }

    public static void main(String[] args) {
        range();
        meter();
        part();
        miss();
        worth();
        partOf();
        kind();
        readTrailRest();
        ofOneMeter();
        span();
        line();
        balances();
        count();
        noise();
        mean();
        fault();
        shownShowing();
        joined();
        size();
        noRoom();
        refusedIsNoAct();
        acceptedChanges();
        acceptedReads();
        undoOfNothing();
        end();
    }
}
