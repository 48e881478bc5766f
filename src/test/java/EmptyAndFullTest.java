/** The object without METERS, METERS without PARTS, and the object in which there is no more room. */
public final class EmptyAndFullTest extends Checks {

    private static void newObject() {
        of("1: no METERS");
        StepMeters x = new StepMeters();
        int[] sizes = {255, 0, 0, 0, 0};
        for (int what = 0; what < 5; what++) {
            due("size(" + what + ")", x.size(what), sizes[what]);
        }
        due("trouble", x.trouble(), 0);
        due("partOf", x.partOf(0, 0, 0), -10000);
        due("kind", x.kind(0, 0), -1);
        due("PARTS", x.kind(0, 1), -1);
        due("read", x.read(0, 0), LEAST);
        due("trail", x.trail(0, 0), -1);
        due("rest", x.rest(0, 0), LEAST);
        due("span", x.span(0, 0, 0), LEAST);
        due("still", x.still(), 0);
        due("clear", x.clear(), 0);
        due("shows", x.shows(), 0);
        due("showing(0)", x.showing(0), 0);
        due("showing(255)", x.showing(255), 0);
        due("showing(-1)", x.showing(-1), -1);
        due("showing(256)", x.showing(256), -1);
        due("alike", x.alike(), 0);
        due("undo", x.undo(), 0);
        due("trouble is 0 still", x.trouble(), 0);
        refused(x, "part", x.part(0, 0, 0), -1, 2);
        refused(x, "miss", x.miss(0, 0, 0), 2);
        refused(x, "worth", x.worth(0, 0, 0), 2);
        refused(x, "spans", x.spans(0), -1, 2);
        refused(x, "codes", x.codes(0), -1, 2);
        refused(x, "lacks", x.lacks(0), -1, 2);
        refused(x, "back", x.back(0), -1, 2);
        refused(x, "widest", x.widest(0), -1, 2);
        refused(x, "edge", x.edge(0, 0), -1, 2);
        refused(x, "line", x.line(0, 0), -1, 2);
        refused(x, "covered", x.covered(0), -1, 2);
        refused(x, "tail", x.tail(0), -1, 2);
        refused(x, "mend", x.mend(0), 2);
        refused(x, "count", x.count(0, 0, 0, 1, 0), -1, 2);
        refused(x, "mean", x.mean(0, 0, false), -1, 2);
        refused(x, "fault", x.fault(0, 0, 0), -1, 2);
        refused(x, "shown", x.shown(0), -1, 2);
        refused(x, "beyond", x.beyond(0), -1, 2);
        refused(x, "joined", x.joined(0, 0, 0, 0), LEAST, 2);
        for (int what = 0; what < 5; what++) {
            due("size(" + what + ") behind all that", x.size(what), sizes[what]);
        }
        due("RANGE can be set", x.range(9), true);
        due("NOISE can come", x.noise(1, 1), 1);
        due("the first METER", x.meter(0), 0);
    }

    private static void withoutParts() {
        of("3: a new METER of a kind (0 .. 4) without PARTS");
        for (int kind = 0; kind < 5; kind++) {
            StepMeters x = new StepMeters();
            due("its number", x.meter(kind), 0);
            due("kind", x.kind(0, 0), kind);
            due("PARTS", x.kind(0, 1), 0);
            for (int n : new int[] {0, 1, 254, 255}) {
                due("read", x.read(0, n), 0);
                due("trail", x.trail(0, n), 0);
                due("rest", x.rest(0, n), n);
            }
            due("partOf", x.partOf(0, 0, 0), -10000);
            due("spans", x.spans(0), 1);
            due("first", x.span(0, 0, 0), 0);
            due("last", x.span(0, 0, 1), 255);
            due("code", x.span(0, 0, 2), 0);
            due("no SPAN 1", x.span(0, 1, 0), LEAST);
            due("codes", x.codes(0), 1);
            due("lacks", x.lacks(0), 0);
            due("back", x.back(0), -2);
            due("widest", x.widest(0), 2560000);
            due("edge of -1", x.edge(0, -1), 0);
            due("edge of 0", x.edge(0, 0), 0);
            due("edge of 1", x.edge(0, 1), 256);
            refused(x, "line", x.line(0, 0), -1, 5);
            due("count of 0", x.count(0, 0, 255, 1, 0), 256);
            due("count of 1", x.count(0, 0, 255, 1, 1), 0);
            due("mean", x.mean(0, 255, false), 0);
            due("mean's lower number", x.mean(0, 255, true), 1);
            x.noise(1, 7);
            due("mean with NOISE", x.mean(0, 255, false), 0);
            due("mean's lower number with NOISE", x.mean(0, 255, true), 1);
            due("beyond", x.beyond(0), -2);
            due("joined with itself", x.joined(0, 0, 1000, 255), 0);
            refused(x, "miss", x.miss(0, 0, 0), 2);
            refused(x, "worth", x.worth(0, 0, 0), 2);
            refused(x, "fault", x.fault(0, 0, 0), -1, 2);
        }
    }

    private static void balanceWithoutParts() {
        of("20 to 22: a BALANCE without PARTS");
        StepMeters x = new StepMeters();
        x.meter(2);
        due("(One without PARTS is.)", x.covered(0), -2);
        due("trouble", x.trouble(), 0);
        due("tail: the number 0 alone", x.tail(0), 0);
        due("trouble", x.trouble(), 0);
        due("mend", x.mend(0), true);
        due("trouble", x.trouble(), 0);
        due("is an act", x.size(4), 2);
        due("taken back", x.undo(), 1);
        due("the METER stays", x.size(1), 1);
        x.part(0, 1, 0);
        x.undo();
        due("without PARTS again", x.covered(0), -2);
        due("tail", x.tail(0), 0);
        for (int kind : new int[] {0, 1, 3, 4}) {
            StepMeters other = new StepMeters();
            other.meter(kind);
            refused(other, "covered of another kind", other.covered(0), -1, 4);
            refused(other, "tail of another kind", other.tail(0), -1, 4);
            refused(other, "mend of another kind", other.mend(0), 4);
        }
    }

    private static void joinedWithoutParts() {
        of("34: joined, one of the two without PARTS");
        StepMeters x = bench(20, 0, 0, 4, 10);
        int bare = x.meter(2);
        due("the first one bare: 0 and the code of the other at 4", x.joined(bare, 0, 1000, 4), 1);
        due("the number is the REST", x.joined(bare, 0, -1000, 20), 2);
        due("the other one bare", x.joined(0, bare, 1000, 20), 2000);
    }

    private static void noFaults() {
        of("29 to 32: without FAULTS");
        StepMeters x = bench(20, 0, 0, 4, 10);
        refused(x, "shown(0)", x.shown(0), -1, 2);
        due("shows: 0 without FAULTS", x.shows(), 0);
        due("showing", x.showing(4), 0);
        due("alike", x.alike(), 0);
        due("clear", x.clear(), 0);
        x.fault(0, 0, 1);
        due("clear of one", x.clear(), 1);
        refused(x, "shown(0)", x.shown(0), -1, 2);
        due("shows", x.shows(), 0);
        due("showing", x.showing(4), 0);
        due("alike of one that is gone", x.alike(), 0);
        due("the first again", x.fault(0, 1, 1), 1);
        due("is the one told", x.shown(0), 10);
        due("alike of one", x.alike(), 0);
    }

    private static void leastRange() {
        of("I: RANGE 1: the numbers 0 and 1");
        StepMeters x = bench(1, 0, 0, 1, 1);
        due("spans", x.spans(0), 2);
        due("codes", x.codes(0), 2);
        due("lacks", x.lacks(0), 1);
        due("back", x.back(0), -2);
        due("widest", x.widest(0), 10000);
        due("edge of 2", x.edge(0, 2), 1);
        due("edge of 3", x.edge(0, 3), 2);
        due("line", x.line(0, 0), 0);
        due("count", x.count(0, 0, 1, 1, 2), 1);
        due("count", x.count(0, 1, 1, 1, 2), 1);
        due("beyond", x.beyond(0), -2);
        x.fault(0, 0, 1);
        due("shown at RANGE", x.shown(0), 1);
        due("showing", x.showing(1), 1);
        due("shows", x.shows(), 1);
        x.fault(0, 1, 1);
        due("alike", x.alike(), 1);
    }

    /** Eight METERS of sixteen PARTS each: the METER m reads as its kind, m % 5, does. */
    private static StepMeters allParts() {
        StepMeters x = new StepMeters();
        x.range(4095);
        for (int m = 0; m < 8; m++) {
            x.meter(m % 5);
            for (int k = 0; k < 16; k++) {
                x.part(m, m % 5 == 0 ? 4095 - k : m % 5 == 1 ? 255 : m % 5 == 2 ? 1 << Math.min(12, 15 - k) : 4096,
                        m % 5 == 3 ? 4096 : 2048);
            }
        }
        return x;
    }

    private static void allMetersAndParts() {
        of("I: METERS 8, each of 16 PARTS");
        StepMeters x = allParts();
        due("METERS", x.size(1), 8);
        due("acts", x.size(4), 60);
        for (int m = 0; m < 8; m++) {
            due("PARTS of " + m, x.kind(m, 1), 16);
            refused(x, "one more of " + m, x.part(m, 0, 0), -1, 3);
            due("a PART behind them", x.partOf(m, 16, 0), -10000);
        }
        refused(x, "one METER more", x.meter(0), -1, 3);
        due("edges at RANGE", x.read(0, 4095), 16);
        due("TRAIL", x.trail(5, 4095), 65535);
        due("edges below all", x.read(0, 4079), 0);
        due("sums: 16 times 255 is 4,080", x.read(1, 4079), 15);
        due("all of them", x.read(6, 4080), 16);
        due("their REST", x.rest(1, 4095), 15);
        due("weights: the last of the four 4,096 isn't put on", x.trail(2, 4095), 65520);
        due("their code", x.read(7, 4095), 4095);
        due("stages: each bit of 4,095 but the first", x.read(3, 4095) > 0, true);
        due("the bits: 12 from the second on", x.trail(3, 4095), 8190);
        due("codes of the edges", x.codes(0), 17);
        due("codes of the weights", x.codes(2), 4096);
        due("spans of the weights", x.spans(2), 4096);
        due("the last SPAN", x.span(2, 4095, 2), 4095);
        due("no SPAN more", x.span(2, 4096, 0), LEAST);
        due("lacks of the weights", x.lacks(2), 0);
        due("widest of the edges", x.widest(0), 40800000);
        due("one LINE", x.line(2, 0), 0);
        due("beyond of the edges", x.beyond(0), -2);
        due("the last METER joined with the first", x.joined(7, 0, 1000, 4095), 4095000);
        due("the acts of the last METER alone", x.undo(), 1);
        due("PARTS", x.kind(7, 1), 15);
    }

    private static void greatestCodes() {
        of("II: the greatest codes there are");
        StepMeters x = new StepMeters();
        x.range(1);
        x.meter(2);
        for (int k = 0; k < 16; k++) {
            x.part(0, 0, 0);
            x.worth(0, k, 8000);
        }
        due("read", x.read(0, 1), 128000);
        due("lacks: 0 .. 127,999", x.lacks(0), 128000);
        due("codes", x.codes(0), 1);
        due("edge", x.edge(0, 128000), 0);
        due("edge of one more", x.edge(0, 128001), 2);
        due("line: all EDGES are 0", x.line(0, 0), 0);
        due("its k", x.line(0, 1), 1);
        due("tail", x.tail(0), -128000);
        due("joined", x.joined(0, 0, 1000, 1), 128128000);
        due("joined", x.joined(0, 0, -1000, 1), -127872000);
        for (int i = 0; i < 8; i++) {
            x.noise(0, 1000);
        }
        due("mean", x.mean(0, 1, false), 128000);
        due("of 1", x.mean(0, 1, true), 1);
        x.undo();
        x.worth(0, 15, -8000);
        due("one below 0", x.read(0, 1), 112000);
        StepMeters least = new StepMeters();
        least.meter(2);
        for (int k = 0; k < 16; k++) {
            least.part(0, 0, 0);
            least.worth(0, k, -8000);
        }
        due("the least", least.read(0, 0), -128000);
        due("lacks: 0 if that is below 0", least.lacks(0), 0);
        due("tail", least.tail(0), 128000);
        due("edge", least.edge(0, -128000), 0);
        due("edge of one more", least.edge(0, -127999), 256);
        due("span", least.span(0, 0, 2), -128000);
        due("count", least.count(0, 0, 255, 1, -128000), 256);
    }

    private static void greatestCodeWithMendedWorths() {
        of("14, 15: the greatest code that there can be: eight WORTHS mended at 8,500, eight of 8,000");
        StepMeters x = new StepMeters();
        x.range(4095);
        x.meter(2);
        for (int k = 0; k < 16; k++) {
            x.part(0, k < 8 ? -8000 : 8000, 0);
            x.miss(0, k, k < 8 ? -500 : 500);
        }
        x.mend(0);
        for (int k = 0; k < 16; k++) {
            if (k < 8) {
                x.worth(0, k, 8000);
            } else {
                x.miss(0, k, -500);
            }
        }
        // All are kept: 8 times 7,500 is below 8 times 8,500.
        due("read", x.read(0, 0), 132000);
        due("read at RANGE", x.read(0, 4095), 132000);
        due("codes", x.codes(0), 1);
        due("lacks: 0 .. 131,999", x.lacks(0), 132000);
        due("edge", x.edge(0, 132000), 0);
        due("edge of one more", x.edge(0, 132001), 4096);
        due("tail: together below 0", x.tail(0), -132000);
        due("count", x.count(0, 0, 4095, 1, 132000), 4096);
        due("joined: its REST is beyond", x.joined(0, 0, 1000, 0), LEAST);
        for (int i = 0; i < 8; i++) {
            x.noise(0, 1000);
        }
        due("mean", x.mean(0, 0, false), 132000);
        due("of 1", x.mean(0, 0, true), 1);
    }

    private static void noiseFull() {
        of("26: MEAN of a full NOISE");
        StepMeters x = bench(4095, 2, 0, 2048, 1024, 512, 256, 128, 64, 32, 16, 8, 4, 2, 1);
        int[] sums = {100, -100, 99, -99, 1, -1, 0, 50};
        for (int i = 0; i < 8; i++) {
            due("noise", x.noise(sums[i], 1000), i + 1);
        }
        // 8 times 2,000 and 50 more: 16,050 of 8.
        due("mean", x.mean(0, 2000, false), 8025);
        due("of", x.mean(0, 2000, true), 4);
        // 100, 0, 99, 0, 1, 0, 0, 50: 250 of 8.
        due("mean at 0", x.mean(0, 0, false), 125);
        due("of", x.mean(0, 0, true), 4);
        // 4,095 at 100, 99, 1, 0, 50; 3,995, 3,996, 4,094 else: 32,760 less 200.
        due("mean at RANGE", x.mean(0, 4095, false), 4070);
        due("of", x.mean(0, 4095, true), 1);
    }

    private static void faultsFull() {
        of("29 to 32: ten FAULTS");
        StepMeters x = new StepMeters();
        x.range(100);
        x.meter(0);
        for (int k = 0; k < 10; k++) {
            x.part(0, 9 * k, 0);
            x.fault(0, k, 1);
        }
        for (int i = 0; i < 10; i++) {
            due("shown(" + i + ")", x.shown(i), 9 * i);
            due("showing", x.showing(9 * i), 1 << i);
        }
        due("shows", x.shows(), 10);
        due("alike", x.alike(), 0);
        x.clear();
        for (int i = 0; i < 10; i++) {
            x.fault(0, 9, 5);
        }
        due("all at 81", x.showing(81), 1023);
        due("all alike: 45 pairs", x.alike(), 45);
        due("one shows all", x.shows(), 1);
        x.clear();
        for (int i = 0; i < 10; i++) {
            x.fault(0, 9, 500);
        }
        x.range(80);
        due("none is shown", x.showing(80), 0);
        due("none shows any", x.shows(), 0);
        due("alike all the same", x.alike(), 45);
        due("shown", x.shown(9), -2);
    }

    public static void main(String[] args) {
        newObject();
        withoutParts();
        balanceWithoutParts();
        joinedWithoutParts();
        noFaults();
        leastRange();
        allMetersAndParts();
        greatestCodes();
        greatestCodeWithMendedWorths();
        noiseFull();
        faultsFull();
        end();
    }
}
