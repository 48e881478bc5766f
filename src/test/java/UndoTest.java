import java.util.ArrayList;
import java.util.List;
import java.util.function.Consumer;

/** Promise 35 and the sixty acts: what each act's undo brings back, and which act falls out. */
public final class UndoTest extends Checks {

    /** A bench of five METERS of all kinds, made in seventeen acts. */
    private static StepMeters made() {
        StepMeters x = new StepMeters();
        x.range(50);
        add(x, 0, 0, 5, 9);
        add(x, 1, 0, 5, 9);
        add(x, 2, 0, 9, 5);
        add(x, 3, 25, 25, 25);
        add(x, 4, 25, 50, 50);
        x.miss(2, 0, 2);
        return x;
    }

    /** One of each act. */
    private static List<Consumer<StepMeters>> acts() {
        List<Consumer<StepMeters>> all = new ArrayList<>();
        all.add(x -> due("range", x.range(40), true));
        all.add(x -> due("meter", x.meter(3), x.size(1) - 1));
        all.add(x -> due("part of EDGES", x.part(0, 7, 0), 3));
        all.add(x -> due("part of a LADDER", x.part(1, 7, 0), 3));
        all.add(x -> due("part of a BALANCE", x.part(2, 3, 0), 3));
        all.add(x -> due("part of STAGES", x.part(3, 20, 20), 3));
        all.add(x -> due("part of a FOLDED one", x.part(4, 40, 20), 3));
        all.add(x -> due("miss", x.miss(0, 1, -4), true));
        all.add(x -> due("miss of a MISS", x.miss(2, 0, -2), true));
        all.add(x -> due("worth", x.worth(2, 1, 30), true));
        all.add(x -> due("worth of a stage", x.worth(3, 0, 30), true));
        all.add(x -> due("mend", x.mend(2), true));
        all.add(x -> due("a range that is so already", x.range(50), true));
        all.add(x -> due("a miss that is so already", x.miss(2, 0, 2), true));
        all.add(x -> due("a worth that is so already", x.worth(2, 1, 5), true));
        return all;
    }

    private static void eachActTakenBack() {
        of("35: the latest act that was accepted is taken back: 1");
        String before = told(made());
        for (Consumer<StepMeters> act : acts()) {
            StepMeters x = made();
            int held = x.size(4);
            act.accept(x);
            due("acts", x.size(4), held + 1);
            due("undo", x.undo(), 1);
            due("all as before:", told(x), before);
        }
    }

    private static void allActsTakenBack() {
        of("35: and isn't taken back: one behind the other");
        StepMeters x = made();
        List<String> before = new ArrayList<>();
        int calls = 0;
        for (Consumer<StepMeters> act : acts()) {
            before.add(toldShort(x));
            act.accept(x);
            calls++;
        }
        for (int i = calls - 1; i >= 0; i--) {
            due("undo", x.undo(), 1);
            due("as before act " + i + ":", toldShort(x), before.get(i));
        }
    }

    /** Little enough to be asked thirty times of one object. */
    private static String toldShort(StepMeters x) {
        StringBuilder all = new StringBuilder().append(x.size(0)).append(' ').append(x.size(1));
        for (int m = 0; m < 5; m++) {
            all.append(' ').append(x.read(m, 13));
        }
        return all.append(' ').append(x.partOf(2, 0, 2)).append(' ').append(x.partOf(2, 0, 1)).toString();
    }

    private static void theActThatFallsOut() {
        of("I: the latest 60 acts can be taken back: the 61st falls out");
        for (Consumer<StepMeters> act : acts()) {
            StepMeters before = made();
            StepMeters kept = made();
            StepMeters lost = made();
            act.accept(kept);
            act.accept(lost);
            for (int i = 0; i < 59; i++) {
                kept.miss(4, 0, i);
                lost.miss(4, 0, i);
            }
            lost.miss(4, 0, 59);
            due("acts", kept.size(4), 60);
            due("acts", lost.size(4), 60);
            for (int i = 0; i < 59; i++) {
                due("undo", kept.undo(), 1);
                due("undo", lost.undo(), 1);
            }
            due("the 60th", kept.undo(), 1);
            due("the 60th", lost.undo(), 1);
            due("none left", kept.undo(), 0);
            due("none left", lost.undo(), 0);
            StepMeters still = made();
            act.accept(still);
            due("the first of sixty is taken back:", withoutActs(kept), withoutActs(before));
            due("the first of 61 isn't:", withoutActs(lost), withoutActs(still));
        }
    }

    /** All that a bench tells but how many acts can be taken back. */
    private static String withoutActs(StepMeters x) {
        return told(x).replaceFirst(" \\d+ \\|", " |");
    }

    private static void whatFellOutStaysOut() {
        of("I: what fell out of the sixty does not come back");
        StepMeters x = new StepMeters();
        for (int i = 1; i <= 62; i++) {
            x.range(i);
        }
        due("undo", x.undo(), 1);
        due("59 left", x.size(4), 59);
        due("undo", x.undo(), 1);
        due("58 left", x.size(4), 58);
        x.range(100);
        x.range(101);
        due("60", x.size(4), 60);
        x.range(102);
        due("60 still", x.size(4), 60);
        for (int i = 0; i < 60; i++) {
            due("undo", x.undo(), 1);
        }
        due("none left", x.undo(), 0);
        due("RANGE of the third act", x.size(0), 3);
    }

    private static void otherCallsAreNoActs() {
        of("35: Acts: range, meter, part, miss, worth, mend");
        StepMeters x = new StepMeters();
        x.meter(2);
        due("meter", x.size(4), 1);
        x.part(0, 5, 0);
        due("part", x.size(4), 2);
        x.miss(0, 0, 1);
        due("miss", x.size(4), 3);
        x.worth(0, 0, 1);
        due("worth", x.size(4), 4);
        x.mend(0);
        due("mend", x.size(4), 5);
        x.range(30);
        due("range", x.size(4), 6);
        x.noise(1, 1);
        x.still();
        x.noise(2, 1);
        x.fault(0, 0, 1);
        x.clear();
        x.fault(0, 0, 2);
        x.spans(0);
        x.tail(0);
        x.mean(0, 0, true);
        x.shows();
        x.joined(0, 0, 1, 0);
        due("no others", x.size(4), 6);
        due("undo", x.undo(), 1);
        due("RANGE", x.size(0), 255);
        due("NOISE stays", x.size(2), 1);
        due("a FAULT stays", x.size(3), 1);
    }

    private static void undoneFromEmptyToEmpty() {
        of("35: 0 if there is none");
        StepMeters x = new StepMeters();
        due("none", x.undo(), 0);
        due("meter", x.meter(1), 0);
        due("one", x.undo(), 1);
        due("none", x.undo(), 0);
        due("METERS", x.size(1), 0);
        due("acts", x.size(4), 0);
        due("meter again", x.meter(4), 0);
        due("its kind", x.kind(0, 0), 4);
        x.range(0);
        due("a refused one isn't taken back", x.undo(), 1);
        due("METERS", x.size(1), 0);
    }

    private static void worthsOfAPartTakenBack() {
        of("35: a PART is taken back, its METER's WORTHS with it");
        for (int kind = 2; kind < 5; kind++) {
            StepMeters x = bench(50, kind, 25, 25, 25);
            x.worth(0, 0, 77);
            x.worth(0, 1, -77);
            x.part(0, 25, 25);
            x.worth(0, 0, 5);
            x.worth(0, 2, 6);
            x.undo();
            x.undo();
            x.undo();
            due("WORTH 0", x.partOf(0, 0, 2), 77);
            due("WORTH 1", x.partOf(0, 1, 2), -77);
            due("PART 2", x.partOf(0, 2, 2), -10000);
        }
        StepMeters sixteen = bench(50, 3, 0);
        for (int k = 0; k < 15; k++) {
            sixteen.part(0, 0, 0);
        }
        for (int k = 0; k < 15; k++) {
            sixteen.worth(0, k, 100 + k);
        }
        sixteen.part(0, 0, 0);
        sixteen.undo();
        for (int k = 0; k < 15; k++) {
            due("WORTH " + k, sixteen.partOf(0, k, 2), 100 + k);
        }
    }

    private static void worthsOfAMendTakenBack() {
        of("35: a mend is taken back, with all WORTHS");
        StepMeters x = bench(50, 2, 0);
        for (int k = 0; k < 16; k++) {
            x.part(0, k, 0);
            x.worth(0, k, 200 + k);
        }
        x.miss(0, 15, -500);
        x.mend(0);
        due("the last", x.partOf(0, 15, 2), -485);
        x.undo();
        for (int k = 0; k < 16; k++) {
            due("WORTH " + k, x.partOf(0, k, 2), 200 + k);
        }
        due("MISS stays", x.partOf(0, 15, 1), -500);
    }

    private static void worthsBehindManyActs() {
        of("I: the latest 60 acts: each of them twice over, with WORTHS of its own");
        StepMeters x = bench(50, 2, 0, 1, 2, 3);
        int other = add(x, 2, 0, 4);
        for (int i = 0; i < 90; i++) {
            x.miss(0, i % 3, i);
            x.mend(i % 2 == 0 ? 0 : other);
        }
        due("acts", x.size(4), 60);
        // Each second one mends METER 0: the last at 88, with MISSES 87, 88, 86 then.
        due("WORTH 0", x.partOf(0, 0, 2), 88);
        due("WORTH 1", x.partOf(0, 1, 2), 90);
        due("WORTH 2", x.partOf(0, 2, 2), 89);
        for (int i = 0; i < 60; i++) {
            due("undo", x.undo(), 1);
        }
        due("none left", x.undo(), 0);
        // As behind the 60th turn (i is 59): mended at 58, with MISSES 57, 58, 56.
        due("WORTH 0", x.partOf(0, 0, 2), 58);
        due("WORTH 1", x.partOf(0, 1, 2), 60);
        due("WORTH 2", x.partOf(0, 2, 2), 59);
        due("MISS 2", x.partOf(0, 2, 1), 59);
        due("the other's WORTH", x.partOf(other, 0, 2), 4);
    }

    private static void faultsOfAGonePart() {
        of("35: (FAULTS of a METER or PART that is gone go, too.)");
        StepMeters x = bench(20, 0, 0, 3, 6, 9);
        x.fault(0, 2, 1);
        x.fault(0, 0, 1);
        x.fault(0, 2, 2);
        x.fault(0, 1, 1);
        x.fault(0, 2, 3);
        due("undo", x.undo(), 1);
        due("those of PART 2 are gone", x.size(3), 2);
        due("the others stay in order", x.shown(0), 3);
        due("the others stay in order", x.shown(1), 6);
        refused(x, "no third", x.shown(2), -1, 2);
        due("PART 2 again", x.part(0, 9, 0), 3);
        due("its FAULTS don't come back", x.size(3), 2);
        due("nor by a number", x.showing(9), 0);
        due("room for the third", x.fault(0, 2, 1), 3);
        x.undo();
        x.undo();
        due("PART 1 is gone too", x.size(3), 1);
        x.undo();
        due("and PART 0", x.size(3), 0);
    }

    private static void faultsOfAGoneMeter() {
        of("35: (FAULTS of a METER or PART that is gone go, too.)");
        StepMeters x = bench(20, 0, 0, 3);
        add(x, 0, 0, 5);
        x.fault(1, 0, 1);
        x.fault(0, 0, 1);
        x.undo();
        due("the PART of METER 1 is gone", x.size(3), 1);
        x.undo();
        due("METER 1 is gone", x.size(1), 1);
        due("that of METER 0 stays", x.size(3), 1);
        due("and is told", x.shown(0), 3);
        StepMeters kept = bench(20, 0, 0, 3);
        kept.miss(0, 0, 2);
        kept.fault(0, 0, 4);
        kept.undo();
        due("a MISS taken back leaves the FAULT", kept.size(3), 1);
        kept.meter(0);
        kept.undo();
        due("as another METER does", kept.size(3), 1);
        kept.range(9);
        kept.undo();
        due("and a RANGE", kept.size(3), 1);
    }

    private static void roomAgainBehindGoneFaults() {
        of("27: room again when FAULTS are gone");
        StepMeters x = bench(20, 0, 0, 3, 6);
        for (int i = 0; i < 10; i++) {
            x.fault(0, i == 4 ? 1 : 0, i);
        }
        refused(x, "an 11th", x.fault(0, 0, 1), -1, 3);
        x.undo();
        due("one is gone", x.size(3), 9);
        due("the 10th", x.fault(0, 0, 9), 10);
        refused(x, "an 11th", x.fault(0, 0, 1), -1, 3);
        due("told in order: the fourth", x.shown(3), 3);
        due("0 is the MISS it has", x.shown(0), -2);
    }

    private static void rangeTakenBack() {
        of("35: a RANGE is taken back, to the last number");
        StepMeters x = bench(4095, 0, 0, 4095);
        x.range(4094);
        due("spans", x.spans(0), 1);
        x.undo();
        due("spans", x.spans(0), 2);
        due("read", x.read(0, 4095), 1);
        x.undo();
        x.undo();
        x.undo();
        due("255 at first", x.size(0), 255);
    }

    public static void main(String[] args) {
        eachActTakenBack();
        allActsTakenBack();
        theActThatFallsOut();
        whatFellOutStaysOut();
        otherCallsAreNoActs();
        undoneFromEmptyToEmpty();
        worthsOfAPartTakenBack();
        worthsOfAMendTakenBack();
        worthsBehindManyActs();
        faultsOfAGonePart();
        faultsOfAGoneMeter();
        roomAgainBehindGoneFaults();
        rangeTakenBack();
        end();
    }
}
