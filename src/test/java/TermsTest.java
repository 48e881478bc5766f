/**
 * One method for each sentence of the document's Terms I to III that names a bound: the last value
 * that is accepted and the first that isn't, on both sides. Answers are worked out by hand.
 */
public final class TermsTest extends Checks {

    // ---- I. BOUNDS

    private static void numbersFromZeroToRange() {
        of("I: NUMBERS are whole, from 0 to RANGE");
        for (int range : new int[] {1, 2, 254, 255, 4094, 4095}) {
            StepMeters x = bench(range, 0, 0, 1);
            due("read(0)", x.read(0, 0), 0);
            due("read(RANGE)", x.read(0, range), 1);
            due("read(-1)", x.read(0, -1), LEAST);
            due("read(RANGE + 1)", x.read(0, range + 1), LEAST);
            due("trail(0)", x.trail(0, 0), 0);
            due("trail(RANGE)", x.trail(0, range), 1);
            due("trail(-1)", x.trail(0, -1), -1);
            due("trail(RANGE + 1)", x.trail(0, range + 1), -1);
            due("rest(0)", x.rest(0, 0), 0);
            due("rest(RANGE)", x.rest(0, range), range - 1);
            due("rest(-1)", x.rest(0, -1), LEAST);
            due("rest(RANGE + 1)", x.rest(0, range + 1), LEAST);
            due("the last SPAN ends at RANGE", x.span(0, 1, 1), range);
            due("the widest SPAN", x.widest(0), range == 1 ? 10000 : 10000 * range + 1);
            due("EDGE of a code that is too great", x.edge(0, 2), range + 1);
        }
        for (int range : new int[] {1, 255, 4095}) {
            StepMeters x = bench(range, 0, 0, 1);
            due("mean(0)", x.mean(0, 0, false), 0);
            due("mean(RANGE)", x.mean(0, range, false), 1);
            refused(x, "mean(-1)", x.mean(0, -1, false), -1, 2);
            refused(x, "mean(RANGE + 1)", x.mean(0, range + 1, false), -1, 2);
            due("count to RANGE", x.count(0, 0, range, 1, 1), range);
            refused(x, "count from -1", x.count(0, -1, range, 1, 1), -1, 1);
            refused(x, "count to RANGE + 1", x.count(0, 0, range + 1, 1, 1), -1, 1);
            due("joined(0)", x.joined(0, 0, 5, 0), 0);
            due("joined(RANGE)", x.joined(0, 0, 5, range), range == 1 ? 5 : 6);
            refused(x, "joined(-1)", x.joined(0, 0, 5, -1), LEAST, 2);
            refused(x, "joined(RANGE + 1)", x.joined(0, 0, 5, range + 1), LEAST, 2);
            due("showing(0)", x.showing(0), 0);
            due("showing(RANGE)", x.showing(range), 0);
            due("showing(-1)", x.showing(-1), -1);
            due("showing(RANGE + 1)", x.showing(range + 1), -1);
        }
    }

    private static void rangeFrom1To4095() {
        of("I: RANGE (1 .. 4,095)");
        StepMeters x = new StepMeters();
        due("1", x.range(1), true);
        due("size(0)", x.size(0), 1);
        refused(x, "0", x.range(0), 1);
        due("size(0)", x.size(0), 1);
        due("4095", x.range(4095), true);
        due("size(0)", x.size(0), 4095);
        refused(x, "4096", x.range(4096), 1);
        due("size(0)", x.size(0), 4095);
        refused(x, "-1", x.range(-1), 1);
        refused(x, "the least", x.range(LEAST), 1);
        refused(x, "the most", x.range(MOST), 1);
        due("size(0)", x.size(0), 4095);
        due("acts", x.size(4), 2);
    }

    private static void rangeIs255AtFirst() {
        of("I: RANGE (255 at first)");
        StepMeters x = new StepMeters();
        due("size(0)", x.size(0), 255);
        x.meter(0);
        due("read(255)", x.read(0, 255), 0);
        due("read(256)", x.read(0, 256), LEAST);
    }

    private static void eightMeters() {
        of("I: METERS 8");
        StepMeters x = new StepMeters();
        for (int m = 0; m < 8; m++) {
            due("meter " + m, x.meter(0), m);
            due("trouble", x.trouble(), 0);
        }
        refused(x, "the ninth", x.meter(0), -1, 3);
        due("METERS", x.size(1), 8);
        due("METER 7", x.kind(7, 0), 0);
        due("METER 8", x.kind(8, 0), -1);
        x.undo();
        due("there is room again", x.meter(4), 7);
        due("of its kind", x.kind(7, 0), 4);
        refused(x, "the ninth again", x.meter(0), -1, 3);
    }

    private static void sixteenParts() {
        of("I: each of at most 16 PARTS");
        for (int kind = 0; kind < 5; kind++) {
            StepMeters x = new StepMeters();
            x.meter(kind);
            x.meter(kind);
            for (int k = 1; k <= 16; k++) {
                due("part " + k, x.part(0, k, 0), k);
                due("trouble", x.trouble(), 0);
            }
            refused(x, "the 17th", x.part(0, 1, 0), -1, 3);
            due("PARTS", x.kind(0, 1), 16);
            due("PART 15", x.partOf(0, 15, 0), 16);
            due("PART 16", x.partOf(0, 16, 0), -10000);
            due("the other METER has room", x.part(1, 1, 0), 1);
            x.undo();
            x.undo();
            due("there is room again", x.part(0, 5, 0), 16);
            due("PART 15", x.partOf(0, 15, 0), 5);
        }
    }

    private static void tenFaults() {
        of("I: FAULTS 10");
        StepMeters x = bench(20, 0, 0, 10);
        for (int i = 1; i <= 10; i++) {
            due("fault " + i, x.fault(0, 0, i), i);
            due("trouble", x.trouble(), 0);
        }
        refused(x, "the 11th", x.fault(0, 0, 1), -1, 3);
        due("FAULTS", x.size(3), 10);
        due("FAULT 9", x.shown(9), 10);
        refused(x, "FAULT 10", x.shown(10), -1, 2);
        due("all ten", x.showing(10), 1023);
        due("clear", x.clear(), 10);
        due("there is room again", x.fault(0, 0, 1), 1);
    }

    private static void noiseOfEight() {
        of("I: a NOISE of 8");
        StepMeters x = bench(20, 0, 0, 1);
        for (int i = 1; i <= 8; i++) {
            due("noise " + i, x.noise(i, 1), i);
            due("trouble", x.trouble(), 0);
        }
        refused(x, "the ninth", x.noise(1, 1), -1, 3);
        due("little sums", x.size(2), 8);
        x.miss(0, 0, 7);
        due("the eighth alone reaches 8", x.mean(0, 0, false), 1);
        due("of eight", x.mean(0, 0, true), 8);
        due("still", x.still(), 8);
        due("there is room again", x.noise(1, 1), 1);
    }

    private static void sixtyActs() {
        of("I: the latest 60 acts can be taken back");
        StepMeters x = new StepMeters();
        for (int i = 1; i <= 59; i++) {
            x.range(i);
        }
        due("59 acts", x.size(4), 59);
        x.range(60);
        due("60 acts", x.size(4), 60);
        x.range(61);
        due("61 acts", x.size(4), 60);
        for (int i = 60; i >= 1; i--) {
            due("undo", x.undo(), 1);
            due("RANGE", x.size(0), i);
            due("acts", x.size(4), i - 1);
        }
        due("the 61st is out of reach", x.undo(), 0);
        due("RANGE", x.size(0), 1);
    }

    // ---- II. METERS, by kinds

    private static void sizeWithin8000() {
        of("II: a SIZE (-8,000 .. 8,000)");
        for (int kind = 0; kind < 5; kind++) {
            StepMeters x = new StepMeters();
            x.meter(kind);
            due("8000", x.part(0, 8000, 0), 1);
            due("told", x.partOf(0, 0, 0), 8000);
            due("-8000", x.part(0, -8000, 0), 2);
            due("told", x.partOf(0, 1, 0), -8000);
            refused(x, "8001", x.part(0, 8001, 0), -1, 1);
            refused(x, "-8001", x.part(0, -8001, 0), -1, 1);
            refused(x, "the most", x.part(0, MOST, 0), -1, 1);
            refused(x, "the least", x.part(0, LEAST, 0), -1, 1);
            due("PARTS", x.kind(0, 1), 2);
            due("acts", x.size(4), 3);
        }
    }

    private static void missWithin500() {
        of("II: a MISS (-500 .. 500, 0 at first)");
        for (int kind = 0; kind < 5; kind++) {
            StepMeters x = new StepMeters();
            add(x, kind, 0, 5, 6);
            due("0 at first", x.partOf(0, 0, 1), 0);
            due("500", x.miss(0, 0, 500), true);
            due("told", x.partOf(0, 0, 1), 500);
            refused(x, "501", x.miss(0, 0, 501), 1);
            due("told", x.partOf(0, 0, 1), 500);
            due("-500", x.miss(0, 0, -500), true);
            due("told", x.partOf(0, 0, 1), -500);
            refused(x, "-501", x.miss(0, 0, -501), 1);
            refused(x, "the most", x.miss(0, 0, MOST), 1);
            refused(x, "the least", x.miss(0, 0, LEAST), 1);
            due("told", x.partOf(0, 0, 1), -500);
            due("the other PART", x.partOf(0, 1, 1), 0);
            due("acts", x.size(4), 5);
        }
    }

    private static void missIsNoneAtFirstAgain() {
        of("II: MISS is 0 at first, in the place of a PART that is gone too");
        StepMeters x = bench(20, 0, 0, 10);
        x.miss(0, 0, 4);
        x.undo();
        x.undo();
        x.part(0, 10, 0);
        due("MISS", x.partOf(0, 0, 1), 0);
        StepMeters y = bench(20, 0, 0);
        for (int i = 0; i < 70; i++) {
            y.range(20);
        }
        y.part(0, 10, 0);
        y.miss(0, 0, 4);
        y.undo();
        y.undo();
        due("PARTS", y.kind(0, 1), 0);
        y.part(0, 11, 0);
        due("MISS", y.partOf(0, 0, 1), 0);
    }

    private static void worthWithin8000() {
        of("II: a WORTH (-8,000 .. 8,000)");
        for (int kind = 2; kind < 5; kind++) {
            StepMeters x = new StepMeters();
            add(x, kind, 0, 0, 0);
            due("8000", x.worth(0, 1, 8000), true);
            due("told", x.partOf(0, 1, 2), 8000);
            refused(x, "8001", x.worth(0, 1, 8001), 1);
            due("told", x.partOf(0, 1, 2), 8000);
            due("-8000", x.worth(0, 1, -8000), true);
            due("told", x.partOf(0, 1, 2), -8000);
            refused(x, "-8001", x.worth(0, 1, -8001), 1);
            refused(x, "the most", x.worth(0, 1, MOST), 1);
            refused(x, "the least", x.worth(0, 1, LEAST), 1);
            due("told", x.partOf(0, 1, 2), -8000);
            due("acts", x.size(4), 5);
        }
    }

    private static void boundWithin8000() {
        of("II: two kinds have BOUNDS (-8,000 .. 8,000), too");
        for (int kind = 3; kind < 5; kind++) {
            StepMeters x = new StepMeters();
            x.meter(kind);
            due("8000", x.part(0, 1, 8000), 1);
            due("told", x.partOf(0, 0, 3), 8000);
            due("-8000", x.part(0, 1, -8000), 2);
            due("told", x.partOf(0, 1, 3), -8000);
            refused(x, "8001", x.part(0, 1, 8001), -1, 1);
            refused(x, "-8001", x.part(0, 1, -8001), -1, 1);
            refused(x, "the most", x.part(0, 1, MOST), -1, 1);
            refused(x, "the least", x.part(0, 1, LEAST), -1, 1);
            due("PARTS", x.kind(0, 1), 2);
        }
    }

    private static void boundOfNoMatterInOthers() {
        of("4: a BOUND (of no matter in others)");
        for (int kind = 0; kind < 3; kind++) {
            StepMeters x = new StepMeters();
            x.meter(kind);
            int[] bounds = {8001, -8001, MOST, LEAST, 5};
            for (int k = 0; k < bounds.length; k++) {
                due("bound " + bounds[k], x.part(0, 1, bounds[k]), k + 1);
                due("trouble", x.trouble(), 0);
                due("told", x.partOf(0, k, 3), 0);
            }
        }
    }

    private static void sizeAndMiss() {
        of("II: as it is it has SIZE + MISS");
        StepMeters x = bench(4095, 0, 0, 4090);
        x.miss(0, 0, 5);
        due("4090 + 5 at 4095", x.read(0, 4095), 1);
        due("and not at 4094", x.read(0, 4094), 0);
        x.miss(0, 0, 6);
        due("4090 + 6 is above all", x.read(0, 4095), 0);
        for (int kind = 0; kind < 3; kind++) {
            StepMeters least = bench(9, kind, 0, -8000);
            least.miss(0, 0, -500);
            due("0 less -8500", least.rest(0, 0), 8500);
        }
        StepMeters stage = bench(9, 3, -8000, -8000);
        stage.miss(0, 0, -500);
        due("stage: 0 less -8500, doubled", stage.rest(0, 0), 17000);
        StepMeters most = bench(9, 3, -8000, 8000);
        most.miss(0, 0, 500);
        due("stage: 0 less 8500, doubled", most.rest(0, 0), -17000);
        StepMeters fold = bench(9, 4, -8000, 8000);
        fold.miss(0, 0, 500);
        due("folded: 8500 less 0, doubled", fold.rest(0, 0), 17000);
        fold.miss(0, 0, -500);
        due("folded: 7500 less 0, doubled", fold.rest(0, 0), 15000);
    }

    private static void edgesNotAboveTheNumber() {
        of("II: EDGES: how many PARTS as they are are not above the number");
        StepMeters x = bench(20, 0, 0, 7, 20, 0, -1, 21);
        due("0: 0 and -1", x.read(0, 0), 2);
        due("6", x.read(0, 6), 2);
        due("7 is not above 7", x.read(0, 7), 3);
        due("19", x.read(0, 19), 3);
        due("20 is not above 20, 21 is", x.read(0, 20), 4);
        x.miss(0, 4, -1);
        due("20 twice", x.read(0, 20), 5);
        x.miss(0, 3, 1);
        due("0 is not above 0", x.read(0, 0), 2);
        x.miss(0, 3, 2);
        due("1 is above 0", x.read(0, 0), 1);
    }

    private static void ladderSumsNotAbove() {
        of("II: LADDER: likewise of the sums of PARTS 0 .. k");
        StepMeters x = bench(20, 1, 0, 7, 0, -7, 20, 1);
        // Sums: 7, 7, 0, 20, 21.
        due("0: the third sum alone", x.read(0, 0), 1);
        due("its place", x.trail(0, 0), 4);
        due("6", x.read(0, 6), 1);
        due("7", x.read(0, 7), 3);
        due("19", x.read(0, 19), 3);
        due("20, and 21 is above", x.read(0, 20), 4);
        x.miss(0, 0, 1);
        // Sums: 8, 8, 1, 21, 22.
        due("a MISS is in all sums behind it: 0", x.read(0, 0), 0);
        due("1", x.read(0, 1), 1);
        due("20", x.read(0, 20), 3);
    }

    private static void balanceKeptIfNotAbove() {
        of("II: BALANCE: kept if all that is on is not above the number then");
        StepMeters x = bench(20, 2, 0, 10, 10, 1);
        due("9: the last alone", x.read(0, 9), 1);
        due("10: just the first", x.read(0, 10), 10);
        due("11: the second is put off again", x.read(0, 11), 11);
        due("its TRAIL", x.trail(0, 11), 5);
        due("19", x.read(0, 19), 11);
        due("20: just both", x.read(0, 20), 20);
        StepMeters zero = bench(20, 2, 0, 0, 1, -1, 1);
        due("0 at 0 is kept, 1 isn't, -1 is, 1 is then", zero.trail(0, 0), 13);
        due("all at 1", zero.trail(0, 1), 15);
    }

    private static void stagesBitNotBelowBound() {
        of("II: STAGES: its bit is whether the REST is not below its BOUND");
        StepMeters x = bench(20, 3, 10, 10);
        due("9", x.trail(0, 9), 0);
        due("9 doubled", x.rest(0, 9), 18);
        due("10", x.trail(0, 10), 1);
        due("10 less 10", x.rest(0, 10), 0);
        due("11", x.rest(0, 11), 2);
        StepMeters zero = bench(20, 3, 0, 10, 0);
        due("BOUND 0 at 0", zero.trail(0, 0), 1);
        due("-20 is below 0", zero.rest(0, 0), -40);
        due("0 is not", zero.trail(0, 10), 3);
        StepMeters minus = bench(20, 3, 0, 4);
        minus.part(0, 0, -8);
        minus.part(0, 0, -15);
        due("-8 is not below -8, -16 is below -15", minus.trail(0, 0), 3);
        StepMeters great = bench(4095, 3, 4095, 1);
        due("4094", great.read(0, 4094), 0);
        due("4095", great.read(0, 4095), 1);
    }

    private static void doubledNoFurtherThanAMillion() {
        of("II: the REST is doubled (no further than to 1,000,000 in size)");
        // 3,625 + 8,000 is 11,625, doubled 23,250; + 8,000 is 31,250, doubled 62,500; .. 500,000.
        int[] five = {-8000, -8000, 0, 0, 0};
        StepMeters x = bench(4095, 3, 0, five);
        due("behind five", x.rest(0, 3625), 500000);
        x.part(0, 1, 0);
        due("499,999 doubled", x.rest(0, 3625), 999998);
        x.undo();
        x.part(0, 0, 0);
        due("500,000 doubled", x.rest(0, 3625), 1000000);
        x.undo();
        x.part(0, -1, 0);
        due("500,001 doubled", x.rest(0, 3625), 1000000);
        // 0 less 3,813 doubled is -7,626; less 7,999 is -15,625, doubled -31,250; .. -1,000,000.
        StepMeters y = bench(9, 3, -8000, 3813, 7999, 0, 0, 0, 0);
        due("-31,250 four times doubled", y.rest(0, 0), -500000);
        y.part(0, 0, 0);
        due("-500,000 doubled", y.rest(0, 0), -1000000);
        due("1 less 3,813 and so on", y.rest(0, 1), -999872);
        y.miss(0, 0, 1);
        due("0 less 3,814: -1,000,128", y.rest(0, 0), -1000000);
        // 3,813 less 0 doubled is 7,626; -7,999 less that is -15,625.
        StepMeters f = bench(9, 4, -8000, 3813, -7999, 0, 0, 0, 0);
        due("folded", f.rest(0, 0), -500000);
        f.part(0, 0, 0);
        due("folded, -500,000 doubled", f.rest(0, 0), -1000000);
        due("folded, 1", f.rest(0, 1), -999872);
        f.miss(0, 0, 1);
        due("folded, -1,000,128", f.rest(0, 0), -1000000);
    }

    private static void restStaysAMillion() {
        of("II: (.. 1,000,000 in size, and stays that)");
        StepMeters x = bench(4095, 3, 0, -8000, -8000, 0, 0, 0, 0);
        for (int k = 7; k <= 16; k++) {
            x.part(0, k % 2 == 0 ? 8000 : -8000, k % 2 == 0 ? 8000 : -8000);
            x.miss(0, k - 1, k % 2 == 0 ? 500 : -500);
            due("1,000,000 behind " + k, x.rest(0, 3625), 1000000);
        }
        StepMeters y = bench(9, 3, -8000, 3813, 7999, 0, 0, 0, 0, 0);
        StepMeters f = bench(9, 4, -8000, 3813, -7999, 0, 0, 0, 0, 0);
        for (int k = 8; k <= 16; k++) {
            y.part(0, -8000, -8000);
            due("-1,000,000 behind " + k, y.rest(0, 0), -1000000);
            f.part(0, 8000, -8000);
            due("folded behind " + k, f.rest(0, 0), -1000000);
        }
    }

    private static void foldedOddNumberOfBits() {
        of("II: FOLDED: a WORTH counts where an odd number of bits up to its own are set");
        // With BOUND -8,000 each bit is set: one, two, three .. bits.
        StepMeters x = bench(9, 4, -8000, 0, 0, 0, 0, 0);
        due("0 throughout", x.trail(0, 0), 31);
        due("WORTHS of the first, third and fifth", x.read(0, 0), 16 + 4 + 1);
        // With the first bit alone set all WORTHS count.
        StepMeters first = bench(9, 4, 8000, 0, 0, 0);
        due("none", first.read(0, 9), 0);
        StepMeters one = new StepMeters();
        one.meter(4);
        one.part(0, 0, 0);
        one.part(0, 0, 1);
        one.part(0, 0, 1);
        due("the first alone: 5 becomes -5, -10, -20", one.trail(0, 5), 1);
        due("and all WORTHS count", one.read(0, 5), 7);
        StepMeters two = new StepMeters();
        two.meter(4);
        two.part(0, 0, 100);
        two.part(0, 8, 10);
        two.part(0, 0, 100);
        due("the second alone", two.trail(0, 5), 2);
        due("WORTHS of it and the one behind", two.read(0, 5), 3);
        due("8 less 10, doubled, and doubled", two.rest(0, 5), -8);
    }

    private static void worthsAtFirst() {
        of("II: WORTHS are at first 1 in 0 and 1, else the SIZE in 2");
        for (int kind = 0; kind < 2; kind++) {
            StepMeters x = bench(9, kind, 0, 5, -8000, 8000);
            for (int k = 0; k < 3; k++) {
                due("kind " + kind, x.partOf(0, k, 2), 1);
            }
        }
        StepMeters b = bench(9, 2, 0, 0, -8000, 8000, 7);
        int[] want = {0, -8000, 8000, 7};
        for (int k = 0; k < 4; k++) {
            due("a BALANCE's", b.partOf(0, k, 2), want[k]);
        }
        b.miss(0, 3, 4);
        due("a MISS doesn't change it", b.partOf(0, 3, 2), 7);
    }

    private static void worthsOfStages() {
        of("II: 2 to (how many PARTS stand behind it), 8,000 at most, in 3 and 4");
        for (int kind = 3; kind < 5; kind++) {
            StepMeters x = new StepMeters();
            x.meter(kind);
            int[] first = {1, 2, 4, 8, 16, 32, 64, 128, 256, 512, 1024, 2048, 4096, 8000, 8000, 8000};
            for (int n = 1; n <= 16; n++) {
                x.part(0, 0, 0);
                due("the first of " + n, x.partOf(0, 0, 2), first[n - 1]);
                due("the last of " + n, x.partOf(0, n - 1, 2), 1);
            }
            for (int k = 0; k < 16; k++) {
                due("PART " + k + " of 16", x.partOf(0, k, 2), first[15 - k]);
            }
        }
    }

    private static void worthsAreToldAnew() {
        of("4: (WORTHS of 3 and 4 are then told anew for all its PARTS.)");
        for (int kind = 3; kind < 5; kind++) {
            StepMeters x = bench(9, kind, 0, 1, 1);
            x.worth(0, 0, 70);
            x.worth(0, 1, -70);
            refused(x, "a PART that is refused", x.part(0, 8001, 0), -1, 1);
            due("WORTH 0 stays", x.partOf(0, 0, 2), 70);
            due("WORTH 1 stays", x.partOf(0, 1, 2), -70);
            x.part(0, 1, 0);
            due("WORTH 0", x.partOf(0, 0, 2), 4);
            due("WORTH 1", x.partOf(0, 1, 2), 2);
            due("WORTH 2", x.partOf(0, 2, 2), 1);
        }
        StepMeters b = bench(9, 2, 0, 1, 1);
        b.worth(0, 0, 70);
        b.part(0, 1, 0);
        due("not those of 2", b.partOf(0, 0, 2), 70);
    }

    private static void trailAsANumber() {
        of("II: TRAIL: PART 0 is 1, PART 1 is 2 ..");
        StepMeters x = new StepMeters();
        x.range(30);
        x.meter(0);
        for (int k = 0; k < 16; k++) {
            x.part(0, 16 - k, 0);
        }
        due("none", x.trail(0, 0), 0);
        due("the last PART alone", x.trail(0, 1), 32768);
        due("all but the first", x.trail(0, 15), 65534);
        due("all", x.trail(0, 16), 65535);
        due("the first alone", bench(9, 0, 0, 3, 9).trail(0, 8), 1);
        due("the second alone", bench(9, 0, 0, 9, 3).trail(0, 8), 2);
        StepMeters s = bench(9, 3, -8000, 0, 0, 0, 0, 0, 0, 0, 0, 0, 0, 0, 0, 0, 0, 0, 0);
        due("sixteen bits", s.trail(0, 0), 65535);
        StepMeters l = bench(9, 1, 0, 0, 0, 0, 0, 0, 0, 0, 0, 0, 0, 0, 0, 0, 0, 0, 0);
        due("sixteen sums", l.trail(0, 0), 65535);
        StepMeters b = bench(9, 2, 0, 0, 0, 0, 0, 0, 0, 0, 0, 0, 0, 0, 0, 0, 0, 0, 0);
        due("sixteen weights", b.trail(0, 0), 65535);
    }

    private static void restOfEdgesAndLadders() {
        of("II: REST: of 0, 1 the number less the greatest edge (or sum) that is not above it");
        StepMeters x = bench(20, 0, 0, 12, 5, 12, 8);
        due("the number itself without one", x.rest(0, 4), 4);
        due("0 itself", x.rest(0, 0), 0);
        due("at the least edge", x.rest(0, 5), 0);
        due("ahead of the next", x.rest(0, 7), 2);
        due("at it", x.rest(0, 8), 0);
        due("at the greatest", x.rest(0, 12), 0);
        due("behind it", x.rest(0, 20), 8);
        due("no PARTS", bench(20, 0, 0).rest(0, 20), 20);
        due("all above", bench(20, 0, 0, 21).rest(0, 20), 20);
        due("an edge below 0", bench(20, 0, 0, -1).rest(0, 0), 1);
        due("the greater of two below 0", bench(20, 0, 0, -3, -1).rest(0, 0), 1);
        due("one at 0", bench(20, 0, 0, 0).rest(0, 20), 20);
        StepMeters l = bench(20, 1, 0, 12, -7, 7, -4);
        // Sums: 12, 5, 12, 8.
        due("sums: without one", l.rest(0, 4), 4);
        due("sums: at the least", l.rest(0, 5), 0);
        due("sums: at 8", l.rest(0, 8), 0);
        due("sums: ahead of 12", l.rest(0, 11), 3);
        due("sums: 12", l.rest(0, 12), 0);
        due("no PARTS", bench(20, 1, 0).rest(0, 20), 20);
    }

    private static void restOfOthers() {
        of("II: REST: of 3 and 4 the REST behind the last PART (doubled); of 2 the number less all that is on");
        due("stages: 7 doubled", bench(20, 3, 8, 8).rest(0, 7), 14);
        due("stages: 8 less 8", bench(20, 3, 8, 8).rest(0, 8), 0);
        due("folded: 7 doubled", bench(20, 4, 8, 8).rest(0, 7), 14);
        due("folded: 8 less 9, doubled", bench(20, 4, 8, 8).rest(0, 9), -2);
        due("stages without PARTS", bench(20, 3, 0).rest(0, 20), 20);
        due("folded without PARTS", bench(20, 4, 0).rest(0, 20), 20);
        due("balance: 7", bench(20, 2, 0, 8).rest(0, 7), 7);
        due("balance: 8", bench(20, 2, 0, 8).rest(0, 8), 0);
        due("balance without PARTS", bench(20, 2, 0).rest(0, 20), 20);
        StepMeters b = bench(20, 2, 0, 8);
        b.worth(0, 0, 3);
        due("less what is on, not its WORTH", b.rest(0, 9), 1);
    }

    // ---- III. OF A METER

    private static void spanIsAGreatestRow() {
        of("III: a SPAN: a greatest row of numbers with one code");
        StepMeters x = bench(3, 0, 0, 1, 2, 3);
        due("each number its own", x.spans(0), 4);
        for (int i = 0; i < 4; i++) {
            due("first of " + i, x.span(0, i, 0), i);
            due("last of " + i, x.span(0, i, 1), i);
            due("code of " + i, x.span(0, i, 2), i);
        }
        StepMeters all = bench(3, 0, 0, 4, -1);
        due("one SPAN", all.spans(0), 1);
        due("from 0", all.span(0, 0, 0), 0);
        due("to RANGE", all.span(0, 0, 1), 3);
        due("with code 1", all.span(0, 0, 2), 1);
        StepMeters again = bench(3, 2, 0, 2, 1);
        again.worth(0, 0, 0);
        // Codes: 0, 1, 0, 1.
        due("a code that comes again is another SPAN", again.spans(0), 4);
        StepMeters same = bench(3, 2, 0, 2, 1);
        same.worth(0, 1, 2);
        // Codes: 0, 2, 2, 4.
        due("two ways to one code are one SPAN", same.spans(0), 3);
        due("1 and 2", same.span(0, 1, 1), 2);
    }

    private static void edgeIsTheLeastNumber() {
        of("III: EDGE of k: the least number whose code is k or more");
        StepMeters x = bench(9, 0, 0, 0, 4, 9, 9);
        due("of 1", x.edge(0, 1), 0);
        due("of 2", x.edge(0, 2), 4);
        due("of 3", x.edge(0, 3), 9);
        due("of 4", x.edge(0, 4), 9);
        due("of 5", x.edge(0, 5), 10);
        StepMeters back = bench(9, 2, 0, 6, 3);
        back.worth(0, 0, 1);
        // Codes: 0 to 2, 3 from 3, 1 from 6, 4 at 9.
        due("the least of them", back.edge(0, 1), 3);
        due("and of 4", back.edge(0, 4), 9);
    }

    private static void greatestCodeOfTwoAtLeast() {
        of("III: LINE: n its greatest code (2 at least)");
        StepMeters x = bench(9, 0, 0, 4);
        refused(x, "n is 1", x.line(0, 0), -1, 5);
        refused(x, "n is 1, its k", x.line(0, 1), -1, 5);
        x.part(0, 6, 0);
        due("n is 2: nothing lies off", x.line(0, 0), 0);
        due("trouble", x.trouble(), 0);
        due("and 1 is the least k", x.line(0, 1), 1);
        StepMeters none = bench(9, 0, 0, 10);
        refused(none, "n is 0", none.line(0, 0), -1, 5);
        StepMeters below = bench(9, 2, 0, 0);
        below.worth(0, 0, -4);
        refused(below, "n is -4", below.line(0, 0), -1, 5);
        StepMeters jump = bench(9, 2, 0, 5);
        jump.worth(0, 0, 2);
        due("0 and 2: EDGES of 1 and 2 are one", jump.line(0, 0), 0);
        jump.worth(0, 0, 1);
        refused(jump, "0 and 1", jump.line(0, 0), -1, 5);
        StepMeters beyond = bench(9, 0, 0, 4, 10);
        refused(beyond, "the second is beyond RANGE", beyond.line(0, 0), -1, 5);
        beyond.range(10);
        due("and here it isn't", beyond.line(0, 0), 0);
    }

    private static void lineOfOneThatGoesBack() {
        of("III: LINE: for a METER that doesn't go back");
        StepMeters x = bench(9, 2, 0, 9, 3);
        x.worth(0, 0, 2);
        refused(x, "back at RANGE alone", x.line(0, 0), -1, 5);
        x.worth(0, 0, 3);
        due("the same code isn't back", x.line(0, 0), 0);
        x.range(8);
        x.worth(0, 0, 2);
        due("beyond RANGE it doesn't matter", x.line(0, 0), 0);
        StepMeters first = bench(9, 2, 0, 1, 0);
        first.worth(0, 1, 5);
        first.worth(0, 0, -1);
        refused(first, "back at 1", first.line(0, 0), -1, 5);
        first.worth(0, 0, 0);
        due("not back", first.line(0, 0), 0);
    }

    private static void worstAndItsLeastK() {
        of("III: WORST: the greatest in size, told without its sign, and the least k that has it");
        // EDGES 2, 8, 10, 16, 18, n 5: 4 * (EDGE - 2) - (k - 1) * 16 is 0, 8, 0, 8, 0.
        StepMeters x = bench(20, 0, 0, 2, 8, 10, 16, 18);
        due("8", x.line(0, 0), 8);
        due("at 2, not 4", x.line(0, 1), 2);
        // EDGES 2, 4, 10, 16, 18: 0, -8, 0, 8, 0.
        StepMeters y = bench(20, 0, 0, 2, 4, 10, 16, 18);
        due("-8 without its sign", y.line(0, 0), 8);
        due("at 2", y.line(0, 1), 2);
        // EDGES 2, 6, 10, 13, 18: 0, 0, 0, -4, 0.
        StepMeters z = bench(20, 0, 0, 2, 6, 10, 13, 18);
        due("-4", z.line(0, 0), 4);
        due("at 4", z.line(0, 1), 4);
        // EDGES 2, 6, 10, 14, 18: all on the LINE.
        StepMeters even = bench(20, 0, 0, 2, 6, 10, 14, 18);
        due("0", even.line(0, 0), 0);
        due("at 1", even.line(0, 1), 1);
        StepMeters one = bench(20, 0, 0, 0, 0, 0, 20);
        // EDGES 0, 0, 0, 20: 0, -20, -40, 0.
        due("40", one.line(0, 0), 40);
        due("at 3", one.line(0, 1), 3);
    }

    private static void coveredFromZeroToOneMore() {
        of("III: COVERED: each PART as it is is from 0 to 1 more than all behind it together");
        due("the last: 0", bench(9, 2, 0, 0).covered(0), -2);
        due("the last: 1", bench(9, 2, 0, 1).covered(0), -2);
        due("the last: 2", bench(9, 2, 0, 2).covered(0), 0);
        due("the last: -1", bench(9, 2, 0, -1).covered(0), 0);
        due("5 ahead of 4", bench(9, 2, 0, 5, 2, 1, 1).covered(0), -2);
        due("6 ahead of 4", bench(9, 2, 0, 6, 2, 1, 1).covered(0), 0);
        due("0 ahead of 4", bench(9, 2, 0, 0, 2, 1, 1).covered(0), -2);
        due("-1 ahead of 4", bench(9, 2, 0, -1, 2, 1, 1).covered(0), 0);
        due("3 ahead of 2 does not hinder, 2 ahead of 0 does", bench(9, 2, 0, 3, 2, 1, -1).covered(0), 1);
        due("it alone", bench(9, 2, 0, 0, 0, 0, -1).covered(0), 3);
        due("it alone", bench(9, 2, 0, 2, 1, 1, 2).covered(0), 3);
        StepMeters x = bench(9, 2, 0, 8000, 7500);
        x.miss(0, 0, 500);
        x.miss(0, 1, 500);
        // 8,500 ahead of 8,000, and 8,000 with none behind.
        due("8,500 ahead of 8,000", x.covered(0), 0);
        StepMeters y = bench(9, 2, 0, 4, 3);
        y.miss(0, 1, -2);
        due("4 ahead of 3 - 2", y.covered(0), 0);
        y.miss(0, 0, -2);
        due("4 - 2 ahead of 3 - 2", y.covered(0), -2);
    }

    private static void tailUpToAllParts() {
        of("III: TAIL: of the numbers from 0 up to all its PARTS together");
        StepMeters x = bench(20, 2, 0, 8);
        x.worth(0, 0, 0);
        due("8 is told, 9 isn't", x.tail(0), 8);
        x.miss(0, 0, 1);
        due("as they are: 9", x.tail(0), 9);
        x.miss(0, 0, -1);
        due("as they are: 7", x.tail(0), 7);
        due("0 is told", bench(20, 2, 0, 0).tail(0), 0);
        StepMeters zero = bench(20, 2, 0, 1, -1);
        zero.worth(0, 0, 50);
        zero.worth(0, 1, 3);
        due("0 alone: -1 is on", zero.tail(0), -3);
        StepMeters one = bench(20, 2, 0, 2, -1);
        one.worth(0, 0, 50);
        one.worth(0, 1, 3);
        due("0 and 1: -1 is on", one.tail(0), -2);
    }

    private static void tailNoFurtherThanRange() {
        of("III: TAIL: (no further than to RANGE)");
        int[] want = {19, 20, 20, 20};
        for (int i = 0; i < want.length; i++) {
            StepMeters x = bench(19 + i, 2, 0, 20);
            x.worth(0, 0, 0);
            due("RANGE " + (19 + i), x.tail(0), want[i]);
        }
        StepMeters far = bench(4095, 2, 0, 8000, 8000);
        due("8,000 twice", far.tail(0), 4095);
    }

    private static void tailOfPartsBelowZero() {
        of("III: TAIL: (0 if that is below 0)");
        StepMeters x = bench(20, 2, 0, -1);
        due("together -1: the number 0, code -1", x.tail(0), 1);
        x.worth(0, 0, 3);
        due("code 3", x.tail(0), -3);
        x.part(0, 1, 0);
        due("together 0: the number 0, code 3 + 1", x.tail(0), -4);
        x.part(0, -8000, 0);
        x.worth(0, 2, 0);
        due("together -8,000: the number 0 still", x.tail(0), -4);
    }

    private static void littleSumsWithin100() {
        of("III: little sums (-100 .. 100)");
        StepMeters x = bench(255, 2, 0, 128, 64, 32, 16, 8, 4, 2, 1);
        refused(x, "101", x.noise(101, 1), -1, 1);
        refused(x, "-101", x.noise(-101, 1), -1, 1);
        refused(x, "the most", x.noise(MOST, 1), -1, 1);
        refused(x, "the least", x.noise(LEAST, 1), -1, 1);
        due("none came", x.size(2), 0);
        due("100", x.noise(100, 1), 1);
        due("at 120", x.mean(0, 120, false), 220);
        x.still();
        due("-100", x.noise(-100, 1), 1);
        due("at 120", x.mean(0, 120, false), 20);
        due("0", x.noise(0, 1), 2);
        due("20 and 120", x.mean(0, 120, false), 70);
    }

    private static void eachSoOften() {
        of("III: each so often (1 .. 1,000)");
        StepMeters x = bench(255, 0, 0, 10);
        refused(x, "0 times", x.noise(1, 0), -1, 1);
        refused(x, "1,001 times", x.noise(1, 1001), -1, 1);
        refused(x, "-1 times", x.noise(1, -1), -1, 1);
        refused(x, "the most", x.noise(1, MOST), -1, 1);
        refused(x, "the least", x.noise(1, LEAST), -1, 1);
        due("none came", x.size(2), 0);
        due("once", x.noise(1, 1), 1);
        due("1,000 times", x.noise(0, 1000), 2);
        due("10 by the first alone", x.mean(0, 9, false), 1);
        due("of 1,001", x.mean(0, 9, true), 1001);
    }

    private static void meanNoLowerThanZero() {
        of("III: MEAN: (no lower than 0)");
        StepMeters x = bench(255, 0, 0, 1, 0);
        x.noise(-100, 1);
        due("99 - 100 is held to 0", x.mean(0, 99, false), 1);
        due("100 - 100 is 0", x.mean(0, 100, false), 1);
        due("101 - 100 is 1", x.mean(0, 101, false), 2);
        due("0 - 100 is held to 0", x.mean(0, 0, false), 1);
    }

    private static void meanNoHigherThanRange() {
        of("III: MEAN: (no higher than RANGE)");
        StepMeters x = bench(255, 0, 0, 255, 256);
        x.noise(100, 1);
        due("254", x.mean(0, 154, false), 0);
        due("255", x.mean(0, 155, false), 1);
        due("256 is held to 255", x.mean(0, 156, false), 1);
        due("355 is held to 255", x.mean(0, 255, false), 1);
        x.range(256);
        due("and where it isn't", x.mean(0, 156, false), 2);
        StepMeters small = bench(1, 0, 0, 1);
        small.noise(100, 3);
        small.noise(-100, 1);
        due("RANGE 1: 1 three times, 0 once", small.mean(0, 0, false), 3);
        due("of four", small.mean(0, 0, true), 4);
    }

    private static void meanInLowestTerms() {
        of("III: MEAN: a fraction in lowest terms");
        StepMeters x = bench(20, 2, 0, 16, 8, 4, 2, 1);
        x.noise(0, 500);
        due("5 times 500 of 500", x.mean(0, 5, false), 5);
        due("of 1", x.mean(0, 5, true), 1);
        due("0 of 500", x.mean(0, 0, false), 0);
        due("is 0 of 1", x.mean(0, 0, true), 1);
        x.noise(1, 250);
        due("16 thirds", x.mean(0, 5, false), 16);
        due("of 3", x.mean(0, 5, true), 3);
        StepMeters below = bench(20, 2, 0, 0);
        below.worth(0, 0, -6);
        below.noise(0, 4);
        due("-6", below.mean(0, 0, false), -6);
        due("of 1", below.mean(0, 0, true), 1);
        below.part(0, 2, 0);
        below.worth(0, 1, 3);
        below.noise(2, 4);
        due("-6 and -3, each four times", below.mean(0, 1, false), -9);
        due("of 2", below.mean(0, 1, true), 2);
    }

    private static void faultIsAnotherMiss() {
        of("III: a FAULT: a PART of a METER has another MISS");
        StepMeters x = bench(20, 0, 0, 10);
        x.miss(0, 0, 3);
        x.fault(0, 0, 3);
        x.fault(0, 0, 0);
        x.fault(0, 0, 4);
        due("the same one changes nothing", x.shown(0), -2);
        due("0 in its place, not added: from 10", x.shown(1), 10);
        due("4 in its place: at 13", x.shown(2), 13);
        due("at 9 none", x.showing(9), 0);
        due("at 10", x.showing(10), 2);
        due("at 12", x.showing(12), 2);
        due("at 13", x.showing(13), 4);
        due("at 14 none", x.showing(14), 0);
        due("the MISS itself stays", x.partOf(0, 0, 1), 3);
        due("and the code", x.read(0, 12), 0);
    }

    private static void shownByAnotherCode() {
        of("III: a number SHOWS it if the code is another one with it");
        StepMeters x = bench(20, 0, 0, 10, 12);
        x.fault(0, 0, 2);
        x.fault(0, 1, -2);
        due("a lesser code", x.showing(10) & 1, 1);
        due("a greater code", x.showing(10) & 2, 2);
        StepMeters way = bench(20, 2, 0, 10, 5);
        way.worth(0, 1, 10);
        way.fault(0, 0, 1);
        due("10 by the other PART is no other code", way.showing(10), 0);
        due("15 is", way.showing(15), 1);
    }

    public static void main(String[] args) {
        numbersFromZeroToRange();
        rangeFrom1To4095();
        rangeIs255AtFirst();
        eightMeters();
        sixteenParts();
        tenFaults();
        noiseOfEight();
        sixtyActs();
        sizeWithin8000();
        missWithin500();
        missIsNoneAtFirstAgain();
        worthWithin8000();
        boundWithin8000();
        boundOfNoMatterInOthers();
        sizeAndMiss();
        edgesNotAboveTheNumber();
        ladderSumsNotAbove();
        balanceKeptIfNotAbove();
        stagesBitNotBelowBound();
        doubledNoFurtherThanAMillion();
        restStaysAMillion();
        foldedOddNumberOfBits();
        worthsAtFirst();
        worthsOfStages();
        worthsAreToldAnew();
        trailAsANumber();
        restOfEdgesAndLadders();
        restOfOthers();
        spanIsAGreatestRow();
        edgeIsTheLeastNumber();
        greatestCodeOfTwoAtLeast();
        lineOfOneThatGoesBack();
        worstAndItsLeastK();
        coveredFromZeroToOneMore();
        tailUpToAllParts();
        tailNoFurtherThanRange();
        tailOfPartsBelowZero();
        littleSumsWithin100();
        eachSoOften();
        meanNoLowerThanZero();
        meanNoHigherThanRange();
        meanInLowestTerms();
        faultIsAnotherMiss();
        shownByAnotherCode();
        end();
    }
}
