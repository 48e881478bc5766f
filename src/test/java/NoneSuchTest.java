/**
 * Promises 7 to 36 where the answer turns: the first and the last place, none such, none at all,
 * and what lies just on this side and just on the other side of it.
 */
public final class NoneSuchTest extends Checks {

    /** A BALANCE of RANGE 1 that reads one code at 0 and another at 1. */
    private static StepMeters two(int atZero, int atOne) {
        StepMeters x = bench(1, 2, 0, 1, 0);
        x.worth(0, 0, atOne - atZero);
        x.worth(0, 1, atZero);
        return x;
    }

    private static void partOfEachWhat() {
        of("7: what 0 SIZE, 1 MISS, 2 WORTH, 3 BOUND (0 where there are none)");
        StepMeters x = new StepMeters();
        for (int kind = 0; kind < 5; kind++) {
            add(x, kind, 6, 7, -8);
            x.miss(kind, 1, 5);
            due("SIZE of the first", x.partOf(kind, 0, 0), 7);
            due("SIZE of the last", x.partOf(kind, 1, 0), -8);
            due("MISS of the first", x.partOf(kind, 0, 1), 0);
            due("MISS of the last", x.partOf(kind, 1, 1), 5);
            due("WORTH of the first", x.partOf(kind, 0, 2), kind < 2 ? 1 : kind == 2 ? 7 : 2);
            due("WORTH of the last", x.partOf(kind, 1, 2), kind == 2 ? -8 : 1);
            due("BOUND of the first", x.partOf(kind, 0, 3), kind < 3 ? 0 : 6);
            due("BOUND of the last", x.partOf(kind, 1, 3), kind < 3 ? 0 : 6);
            due("PART 2", x.partOf(kind, 2, 0), -10000);
            due("PART -1", x.partOf(kind, -1, 0), -10000);
            due("what 4", x.partOf(kind, 0, 4), -10000);
            due("what -1", x.partOf(kind, 0, -1), -10000);
        }
    }

    private static void spanFirstAndLast() {
        of("13: SPAN i; -2^31 if there is none such");
        StepMeters x = two(5, -6);
        due("SPAN 0", x.span(0, 0, 2), 5);
        due("SPAN 1", x.span(0, 1, 2), -6);
        due("SPAN 2", x.span(0, 2, 2), LEAST);
        due("SPAN -1", x.span(0, -1, 2), LEAST);
        due("first of 1", x.span(0, 1, 0), 1);
        due("last of 1", x.span(0, 1, 1), 1);
        due("what 3", x.span(0, 1, 3), LEAST);
        due("what -1", x.span(0, 1, -1), LEAST);
        x.worth(0, 0, 0);
        due("one SPAN now", x.span(0, 1, 2), LEAST);
        due("to RANGE", x.span(0, 0, 1), 1);
        x.range(4095);
        due("to RANGE", x.span(0, 0, 1), 4095);
    }

    private static void codesUnlike() {
        of("14: how many unlike codes");
        due("one", two(7, 7).codes(0), 1);
        due("two", two(7, 8).codes(0), 2);
        due("two of unlike sign", two(7, -7).codes(0), 2);
        due("the ends", two(8000, 0).codes(0), 2);
        StepMeters x = bench(7, 2, 0, 4, 2, 1);
        x.worth(0, 0, 0);
        due("each twice", x.codes(0), 4);
    }

    private static void lacksFromZero() {
        of("15: how many codes from 0 to the greatest told no number has (0 if that is below 0)");
        due("the greatest -1", two(-1, -1).lacks(0), 0);
        due("the greatest -1 of two", two(-5, -1).lacks(0), 0);
        due("the greatest 0", two(0, 0).lacks(0), 0);
        due("the greatest 0, and -1", two(-1, 0).lacks(0), 0);
        due("1 alone: 0 lacks", two(1, 1).lacks(0), 1);
        due("-1 and 1: 0 lacks", two(-1, 1).lacks(0), 1);
        due("0 and 1", two(0, 1).lacks(0), 0);
        due("1 and 0", two(1, 0).lacks(0), 0);
        due("0 and 2: 1 lacks", two(0, 2).lacks(0), 1);
        due("2 and 0: 1 lacks", two(2, 0).lacks(0), 1);
        due("3 and 5: 0, 1, 2, 4", two(3, 5).lacks(0), 4);
        due("0 and 8,000", two(0, 8000).lacks(0), 7999);
    }

    private static void backFirst() {
        of("16: the first number whose code is less than that of the one ahead; -2 if none is");
        due("the same", two(4, 4).back(0), -2);
        due("one more", two(4, 5).back(0), -2);
        due("one less", two(4, 3).back(0), 1);
        due("from 0 to -1", two(0, -1).back(0), 1);
        StepMeters x = bench(20, 2, 0, 20, 10);
        x.worth(0, 0, 9);
        due("at RANGE", x.back(0), 20);
        x.range(19);
        due("beyond RANGE", x.back(0), -2);
        StepMeters y = bench(7, 2, 0, 4, 2, 1);
        y.worth(0, 2, -1);
        // Codes: 0, -1, 2, 1, 4, 3, ..
        due("the first of many", y.back(0), 1);
        y.miss(0, 2, 500);
        due("no more", y.back(0), -2);
    }

    private static void widestFirstOfEqual() {
        of("17: the widest SPAN's numbers, and the first SPAN that has so many");
        due("each of one", bench(3, 0, 0, 1, 2, 3).widest(0), 10000);
        due("two of two", bench(3, 0, 0, 2).widest(0), 20000);
        due("1, 2, 2", bench(4, 0, 0, 1, 3).widest(0), 20001);
        due("1, 2, 3", bench(5, 0, 0, 1, 3).widest(0), 30002);
        due("3, 2, 3", bench(7, 0, 0, 3, 5).widest(0), 30000);
        due("all 4,096", bench(4095, 0, 0).widest(0), 40960000);
        due("4,095 behind one", bench(4095, 0, 0, 1).widest(0), 40950001);
        due("4,095 ahead of one", bench(4095, 0, 0, 4095).widest(0), 40950000);
        StepMeters late = bench(4095, 2, 0, 2048, 1024, 512, 256, 128, 64, 32, 16, 8, 4, 2, 1);
        due("4,096 SPANS of one", late.widest(0), 10000);
        late.worth(0, 11, 0);
        due("2,048 of two", late.widest(0), 20000);
    }

    private static void edgeBeyondRange() {
        of("18: EDGE of k; RANGE + 1 if no code is so great");
        StepMeters x = two(-3, 4);
        due("of -4", x.edge(0, -4), 0);
        due("of -3", x.edge(0, -3), 0);
        due("of -2", x.edge(0, -2), 1);
        due("of 0", x.edge(0, 0), 1);
        due("of 4", x.edge(0, 4), 1);
        due("of 5", x.edge(0, 5), 2);
        due("trouble", x.trouble(), 0);
        due("of the most", x.edge(0, MOST), 2);
        due("of the least", x.edge(0, LEAST), 0);
        x.range(4095);
        due("of 5", x.edge(0, 5), 4096);
        due("trouble", x.trouble(), 0);
    }

    private static void rangeMadeLess() {
        of("12 to 19: nothing beyond RANGE is told, though it was told ahead of a range");
        StepMeters x = bench(20, 0, 0, 2, 4, 6, 9);
        due("n is 4: the worst is 3 * 4 - 2 * 7", x.line(0, 0), 2);
        x.range(8);
        // n is 3 with EDGES 2, 4, 6.
        due("line", x.line(0, 0), 0);
        due("its k", x.line(0, 1), 1);
        due("spans", x.spans(0), 4);
        due("the last SPAN", x.span(0, 3, 1), 8);
        due("no SPAN 4", x.span(0, 4, 0), LEAST);
        due("codes", x.codes(0), 4);
        due("lacks", x.lacks(0), 0);
        due("widest", x.widest(0), 30003);
        due("edge of 4", x.edge(0, 4), 9);
        StepMeters y = bench(20, 2, 0, 9, 3);
        y.worth(0, 0, -50);
        due("back", y.back(0), 9);
        y.range(8);
        due("not back", y.back(0), -2);
        due("so it has a LINE", y.line(0, 0), 0);
        StepMeters z = bench(20, 2, 0, 9);
        due("0 and 9", z.lacks(0), 8);
        z.range(8);
        due("0 alone", z.lacks(0), 0);
        refused(z, "too few codes", z.line(0, 0), -1, 5);
    }

    private static void mendedWorths() {
        of("22: WORTHS become what PARTS are (a MISS with them)");
        StepMeters x = bench(20, 2, 0, 8000, -8000, 0, 5);
        x.miss(0, 0, 500);
        x.miss(0, 1, -500);
        x.worth(0, 3, -70);
        due("mend", x.mend(0), true);
        due("8,000 + 500", x.partOf(0, 0, 2), 8500);
        due("-8,000 - 500", x.partOf(0, 1, 2), -8500);
        due("0", x.partOf(0, 2, 2), 0);
        due("5", x.partOf(0, 3, 2), 5);
        due("SIZE stays", x.partOf(0, 0, 0), 8000);
        due("MISS stays", x.partOf(0, 0, 1), 500);
        due("one act", x.size(4), 10);
        due("mended again is an act too", x.mend(0), true);
        due("acts", x.size(4), 11);
        int other = add(x, 2, 0, 7);
        x.miss(other, 0, 1);
        x.mend(0);
        due("another METER's stay", x.partOf(other, 0, 2), 7);
    }

    private static void countBothEnds() {
        of("23: of the numbers from, from + step .. up to to");
        StepMeters x = bench(20, 0, 0, 5, 9);
        due("0 alone", x.count(0, 0, 0, 1, 0), 1);
        due("RANGE alone", x.count(0, 20, 20, 1, 2), 1);
        due("all", x.count(0, 0, 20, 1, 2), 12);
        due("5 is from", x.count(0, 5, 8, 1, 1), 4);
        due("6 is from", x.count(0, 6, 8, 1, 1), 3);
        due("4 is from", x.count(0, 4, 8, 1, 1), 4);
        due("7 is to", x.count(0, 5, 7, 1, 1), 3);
        due("9 is to", x.count(0, 5, 9, 1, 1), 4);
        due("2, 5, 8: to is met", x.count(0, 2, 8, 3, 1), 2);
        due("2, 5: to is missed by one", x.count(0, 2, 7, 3, 1), 1);
        due("a step just to to", x.count(0, 5, 8, 3, 1), 2);
        due("a step just beyond to", x.count(0, 5, 8, 4, 1), 1);
        due("the greatest step", x.count(0, 5, 8, MOST, 1), 1);
        due("the greatest step, from RANGE", x.count(0, 20, 20, MOST, 2), 1);
        due("the greatest step but one", x.count(0, 1, 20, MOST - 1, 0), 1);
        due("no number has it", x.count(0, 0, 20, 1, 3), 0);
        due("nor -1", x.count(0, 0, 20, 1, -1), 0);
        due("nor the most", x.count(0, 0, 20, 1, MOST), 0);
        due("trouble", x.trouble(), 0);
        due("4,096 numbers", bench(4095, 0, 0).count(0, 0, 4095, 1, 0), 4096);
    }

    private static void stillAndClear() {
        of("25, 28: how many there were");
        StepMeters x = bench(20, 0, 0, 5);
        for (int n : new int[] {0, 1, 8}) {
            for (int i = 0; i < n; i++) {
                x.noise(5, 1);
            }
            due("mean", x.mean(0, 0, false), n == 0 ? 0 : 1);
            due("still", x.still(), n);
            due("mean is the code again", x.mean(0, 0, false), 0);
            due("none", x.size(2), 0);
            due("still again", x.still(), 0);
        }
        for (int n : new int[] {0, 1, 10}) {
            for (int i = 0; i < n; i++) {
                x.fault(0, 0, 1);
            }
            due("showing", x.showing(5), (1 << n) - 1);
            due("clear", x.clear(), n);
            due("showing none", x.showing(5), 0);
            due("none", x.size(3), 0);
            due("clear again", x.clear(), 0);
        }
        x.noise(1, 1);
        x.fault(0, 0, 1);
        x.still();
        due("still leaves FAULTS", x.size(3), 1);
        x.noise(1, 1);
        x.clear();
        due("clear leaves NOISE", x.size(2), 1);
        due("acts", x.size(4), 3);
    }

    private static void shownFirstAndNone() {
        of("29: the least number that SHOWS FAULT i; -2 if none does");
        StepMeters x = bench(20, 0, 0, 0, 20, 20, 21);
        x.fault(0, 0, 1);
        x.fault(0, 1, -1);
        x.fault(0, 2, 1);
        x.fault(0, 3, 1);
        x.fault(0, 3, -1);
        x.fault(0, 0, -1);
        due("0", x.shown(0), 0);
        due("RANGE - 1", x.shown(1), 19);
        due("RANGE", x.shown(2), 20);
        due("beyond RANGE", x.shown(3), -2);
        due("to RANGE", x.shown(4), 20);
        due("below 0", x.shown(5), -2);
        due("trouble", x.trouble(), 0);
        x.range(19);
        due("no RANGE 20", x.shown(2), -2);
        due("19 still", x.shown(1), 19);
        x.range(21);
        due("21 now", x.shown(3), 21);
    }

    private static void showsOnlyWhatIsShown() {
        of("30: each FAULT that any number shows; 0 without FAULTS");
        StepMeters x = bench(20, 0, 0, 0, 20, 30);
        x.fault(0, 2, 1);
        due("none that any number shows", x.shows(), 0);
        x.fault(0, 1, 0);
        due("two of them", x.shows(), 0);
        x.fault(0, 0, 1);
        due("0 shows the third", x.shows(), 1);
        x.fault(0, 1, 1);
        due("RANGE shows the fourth", x.shows(), 2);
        x.fault(0, 0, 500);
        due("0 shows the fifth, as RANGE does", x.shows(), 2);
        x.fault(0, 1, -20);
        due("0 .. 19 the sixth", x.shows(), 2);
        x.range(19);
        due("without RANGE 20", x.shows(), 1);
        StepMeters off = bench(20, 0, 0, -1, 21);
        off.fault(0, 0, 1);
        due("-1 alone would show it", off.shows(), 0);
        off.fault(0, 1, 1);
        due("RANGE + 1 alone would show it", off.shows(), 0);
        off.range(21);
        due("RANGE shows it now", off.shows(), 1);
    }

    private static void showingBits() {
        of("31: FAULTS that a number SHOWS, as bits");
        StepMeters x = bench(20, 0, 0, 10);
        due("none", x.showing(10), 0);
        for (int i = 0; i < 10; i++) {
            x.fault(0, 0, i % 2);
        }
        due("each second of ten", x.showing(10), 2 + 8 + 32 + 128 + 512);
        due("9", x.showing(9), 0);
        due("11", x.showing(11), 0);
    }

    private static void alikePairs() {
        of("32: pairs of FAULTS of one METER no number tells apart");
        StepMeters x = bench(20, 0, 0, 10, 20, 21);
        x.fault(0, 0, 1);
        due("one has no pair", x.alike(), 0);
        x.fault(0, 0, 1);
        due("two alike: one pair", x.alike(), 1);
        x.fault(0, 0, 1);
        due("three alike: three pairs", x.alike(), 3);
        x.fault(0, 0, 2);
        due("told apart by 11 alone", x.alike(), 3);
        x.clear();
        x.fault(0, 1, 0);
        x.fault(0, 1, 1);
        due("told apart by RANGE alone", x.alike(), 0);
        x.range(19);
        due("and not below it", x.alike(), 1);
        x.range(20);
        x.fault(0, 2, 1);
        due("one that nothing shows and one that is as it is", x.alike(), 1);
        x.clear();
        add(x, 0, 0, 10, 20, 21);
        x.fault(0, 0, 1);
        x.fault(1, 0, 1);
        due("of two METERS", x.alike(), 0);
        x.fault(1, 0, 1);
        due("of the second one", x.alike(), 1);
        x.clear();
        x.miss(0, 0, 4);
        x.fault(0, 0, 3);
        x.fault(0, 0, 4);
        due("4 is as it is", x.alike(), 0);
        StepMeters first = bench(20, 0, 0, 0, 0);
        first.fault(0, 0, 1);
        first.fault(0, 1, 1);
        first.fault(0, 1, 0);
        due("0 tells the third from the others", first.alike(), 1);
        StepMeters off = bench(20, 0, 0, -1, 21);
        off.fault(0, 0, 0);
        off.fault(0, 0, 1);
        due("-1 alone would tell them apart", off.alike(), 1);
        off.clear();
        off.fault(0, 1, 0);
        off.fault(0, 1, 1);
        due("RANGE + 1 alone would tell them apart", off.alike(), 1);
        off.range(21);
        due("RANGE tells them apart now", off.alike(), 0);
    }

    private static void beyondEnds() {
        of("33: the first number whose REST is not from 0 to RANGE; -2 if there is none");
        // Doubled: 10 becomes 20, 11 becomes 22.
        due("REST 20 in RANGE 20", bench(20, 3, 11, 11).beyond(0), -2);
        due("REST 22 in RANGE 21", bench(21, 3, 12, 12).beyond(0), 11);
        StepMeters x = bench(20, 2, 0, -1);
        due("REST 1 .. 21: at RANGE", x.beyond(0), 20);
        due("its REST", x.rest(0, 20), 21);
        x.miss(0, 0, 1);
        due("REST 0 .. 20", x.beyond(0), -2);
        StepMeters y = bench(20, 3, 0, 0);
        due("0 less 0", y.rest(0, 0), 0);
        y.miss(0, 0, 1);
        due("0 less 1: at 0", y.beyond(0), 0);
        due("its REST", y.rest(0, 0), -2);
        StepMeters f = bench(20, 4, 10, 20);
        due("20 less 10, doubled", f.rest(0, 10), 20);
        due("none", f.beyond(0), -2);
        f.miss(0, 0, 1);
        due("21 less 10, doubled", f.beyond(0), 10);
        f.miss(0, 0, -1);
        due("19 less 20, doubled: at RANGE", f.beyond(0), 20);
        due("edges", bench(20, 0, 0, -1).beyond(0), 20);
        due("a ladder", bench(20, 1, 0, 5, -6).beyond(0), -2);
        due("a ladder: 4 is 5 from -1", bench(4, 1, 0, 5, -6).beyond(0), 4);
        due("trouble", y.trouble(), 0);
    }

    private static void joinedFactorAndRest() {
        of("34: a factor (-1,000 .. 1,000); the REST is beyond");
        StepMeters x = bench(20, 0, 0, -1, 7);
        int b = add(x, 0, 0, 0, 20);
        due("REST 1", x.joined(0, b, 1000, 0), 1001);
        due("REST 7", x.joined(0, b, -1000, 6), -999);
        due("REST 0", x.joined(0, b, 0, 7), 1);
        refused(x, "factor 1,001", x.joined(0, b, 1001, 7), LEAST, 1);
        refused(x, "factor -1,001", x.joined(0, b, -1001, 7), LEAST, 1);
        x.miss(0, 1, 500);
        due("REST 20", x.joined(0, b, 10, 19), 12);
        due("trouble", x.trouble(), 0);
        refused(x, "REST 21", x.joined(0, b, 10, 20), LEAST, 1);
        due("a BALANCE's REST 0", joinedRest(2, 20, 20), 20);
        refusedRest("a stage's REST -2", 3, -1);
        due("a stage's REST 0", joinedRest(3, 0, 0), 1);
        refusedRest("a folded one's REST -2", 4, 1);
        due("a folded one's REST 0", joinedRest(4, 0, 0), 1);
    }

    /** The code of a METER with one PART at a number, its REST read by one that reads 0. */
    private static int joinedRest(int kind, int size, int n) {
        StepMeters x = bench(20, kind, 0, size);
        return x.joined(0, x.meter(0), 1, n);
    }

    private static void refusedRest(String call, int kind, int less) {
        StepMeters x = bench(20, kind, 0, 10);
        int b = x.meter(0);
        due(call + ": at 10 not yet", x.joined(0, b, 1, 10), 1);
        refused(x, call, x.joined(0, b, 1, 10 + less), LEAST, 1);
    }

    private static void joinedOfGoneMeters() {
        of("34: 2 (METERS, number)");
        StepMeters x = bench(20, 0, 0, 7);
        int b = x.meter(0);
        due("both", x.joined(0, b, 1, 7), 1);
        x.undo();
        refused(x, "the other is gone", x.joined(0, b, 1, 7), LEAST, 2);
        refused(x, "the first is gone", x.joined(b, 0, 1, 7), LEAST, 2);
        refused(x, "-1", x.joined(-1, 0, 1, 7), LEAST, 2);
        refused(x, "-1", x.joined(0, -1, 1, 7), LEAST, 2);
    }

    private static void sizes() {
        of("36: 0 RANGE, 1 METERS, 2 little sums, 3 FAULTS, 4 acts; NONE for others");
        StepMeters x = new StepMeters();
        x.range(77);
        x.meter(0);
        x.meter(1);
        x.part(1, 5, 0);
        x.fault(1, 0, 1);
        x.noise(1, 1);
        x.noise(1, 1);
        x.noise(1, 1);
        int[] want = {-1, 77, 2, 3, 1, 4, -1};
        for (int what = -1; what <= 5; what++) {
            due("size(" + what + ")", x.size(what), want[what + 1]);
        }
    }

    public static void main(String[] args) {
        partOfEachWhat();
        spanFirstAndLast();
        codesUnlike();
        lacksFromZero();
        backFirst();
        widestFirstOfEqual();
        edgeBeyondRange();
        rangeMadeLess();
        mendedWorths();
        countBothEnds();
        stillAndClear();
        shownFirstAndNone();
        showsOnlyWhatIsShown();
        showingBits();
        alikePairs();
        beyondEnds();
        joinedFactorAndRest();
        joinedOfGoneMeters();
        sizes();
        end();
    }
}
