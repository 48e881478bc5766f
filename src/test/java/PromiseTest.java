/** One method a promise, each with answers worked out by hand from the document. */
public final class PromiseTest extends Checks {
    private static void p1NewObject() {
        StepMeters x = new StepMeters();
        due("trouble", x.trouble(), 0);
        int[] sizes = {255, 0, 0, 0, 0};
        for (int what = 0; what < sizes.length; what++) {
            due("size " + what, x.size(what), sizes[what]);
        }
        due("kind", x.kind(0, 0), -1);
        due("undo", x.undo(), 0);
        due("shows", x.shows(), 0);
        due("alike", x.alike(), 0);
        due("showing(255)", x.showing(255), 0);
        due("showing(256)", x.showing(256), -1);
        StepMeters other = new StepMeters();
        other.meter(1);
        due("one object is not the other", x.size(1), 0);
    }

    private static void p2Range() {
        StepMeters x = new StepMeters();
        due("range(1)", x.range(1), true);
        due("trouble", x.trouble(), 0);
        due("size(0)", x.size(0), 1);
        due("range(4095)", x.range(4095), true);
        due("size(0)", x.size(0), 4095);
        refused(x, "range(0)", x.range(0), 1);
        refused(x, "range(4096)", x.range(4096), 1);
        refused(x, "range(-5)", x.range(-5), 1);
        due("size(0)", x.size(0), 4095);
        due("size(4)", x.size(4), 2);
        due("range(9)", x.range(9), true);
        due("trouble", x.trouble(), 0);
        add(x, 0, 0, 5, 9, 10);
        due("spans in 9", x.spans(0), 3);
        x.range(10);
        due("spans in 10", x.spans(0), 4);
        x.range(8);
        due("spans in 8", x.spans(0), 2);
        due("read(9) in 8", x.read(0, 9), LEAST);
    }

    private static void p3Meter() {
        StepMeters x = new StepMeters();
        refused(x, "meter(-1)", x.meter(-1), -1, 1);
        refused(x, "meter(5)", x.meter(5), -1, 1);
        for (int i = 0; i < 8; i++) {
            due("meter", x.meter(i % 5), i);
            due("trouble", x.trouble(), 0);
            due("kind", x.kind(i, 0), i % 5);
            due("parts", x.kind(i, 1), 0);
            due("read without PARTS", x.read(i, 200), 0);
            due("rest without PARTS", x.rest(i, 200), 200);
            due("trail without PARTS", x.trail(i, 200), 0);
        }
        refused(x, "a ninth", x.meter(0), -1, 3);
        refused(x, "a ninth of no kind", x.meter(9), -1, 1);
        due("size(1)", x.size(1), 8);
        due("size(4)", x.size(4), 8);
        StepMeters y = bench(20, 4, 3, 7, 7);
        y.miss(0, 0, 9);
        y.undo();
        y.undo();
        y.undo();
        y.undo();
        due("a METER in the place of one that is gone", add(y, 2, 0, 5), 0);
        due("has its own kind", y.kind(0, 0), 2);
        due("and PARTS", y.kind(0, 1), 1);
        due("no MISS", y.partOf(0, 0, 1), 0);
        due("its WORTH", y.partOf(0, 0, 2), 5);
        due("no BOUND", y.partOf(0, 0, 3), 0);
    }

    private static void p4Part() {
        StepMeters x = new StepMeters();
        refused(x, "no METER", x.part(0, 1, 1), -1, 2);
        refused(x, "no METER, no SIZE", x.part(-1, 9000, 1), -1, 2);
        x.meter(0);
        x.meter(3);
        due("8000", x.part(0, 8000, MOST), 1);
        due("-8000", x.part(0, -8000, LEAST), 2);
        due("trouble", x.trouble(), 0);
        refused(x, "8001", x.part(0, 8001, 0), -1, 1);
        refused(x, "-8001", x.part(0, -8001, 0), -1, 1);
        due("bound 8000", x.part(1, 1, 8000), 1);
        due("bound -8000", x.part(1, 1, -8000), 2);
        refused(x, "bound 8001", x.part(1, 1, 8001), -1, 1);
        refused(x, "bound -8001", x.part(1, 1, -8001), -1, 1);
        due("acts", x.size(4), 6);
        for (int i = 3; i <= 16; i++) {
            due("part", x.part(1, i, i), i);
        }
        refused(x, "a 17th", x.part(1, 1, 1), -1, 3);
        refused(x, "a 17th too great", x.part(1, 9000, 1), -1, 1);
        due("parts", x.kind(1, 1), 16);
        int[] worths = {8000, 8000, 8000, 4096, 2048, 1024, 512, 256, 128, 64, 32, 16, 8, 4, 2, 1};
        for (int k = 0; k < 16; k++) {
            due("worth of " + k, x.partOf(1, k, 2), worths[k]);
        }
        due("kind 0 worth", x.partOf(0, 0, 2), 1);
        due("kind 0 bound", x.partOf(0, 0, 3), 0);
        StepMeters y = bench(10, 3, 4, 4, 4);
        y.worth(0, 0, 77);
        y.miss(0, 0, 3);
        y.part(0, 4, 4);
        due("worth told anew", y.partOf(0, 0, 2), 4);
        due("miss stays", y.partOf(0, 0, 1), 3);
        StepMeters z = bench(10, 2, 0, 7);
        z.worth(0, 0, 70);
        z.part(0, -3, 0);
        due("a BALANCE's WORTH stays", z.partOf(0, 0, 2), 70);
        due("and the new one is its SIZE", z.partOf(0, 1, 2), -3);
        due("a sum's WORTH", bench(9, 1, 0, 5).partOf(0, 0, 2), 1);
        due("a folded one's WORTH", bench(9, 4, 0, 5, 5, 5).partOf(0, 0, 2), 4);
    }

    private static void p5Miss() {
        StepMeters x = bench(100, 0, 0, 50, 60);
        due("500", x.miss(0, 0, 500), true);
        due("-500", x.miss(0, 0, -500), true);
        due("partOf", x.partOf(0, 0, 1), -500);
        due("the other one", x.partOf(0, 1, 1), 0);
        due("size stays", x.partOf(0, 0, 0), 50);
        refused(x, "501", x.miss(0, 0, 501), 1);
        refused(x, "-501", x.miss(0, 0, -501), 1);
        refused(x, "no PART", x.miss(0, 2, 0), 2);
        refused(x, "PART -1", x.miss(0, -1, 501), 2);
        refused(x, "no METER", x.miss(1, 0, 0), 2);
        due("partOf", x.partOf(0, 0, 1), -500);
        due("again", x.miss(0, 1, -10), true);
        due("trouble", x.trouble(), 0);
        due("read(49)", x.read(0, 49), 1);
        due("read(50)", x.read(0, 50), 2);
        due("acts", x.size(4), 7);
    }

    private static void p6Worth() {
        StepMeters x = bench(31, 2, 0, 8, 4);
        due("8000", x.worth(0, 0, 8000), true);
        due("trouble", x.trouble(), 0);
        due("-8000", x.worth(0, 1, -8000), true);
        due("read(8)", x.read(0, 8), 8000);
        due("read(5)", x.read(0, 5), -8000);
        due("read(12)", x.read(0, 12), 0);
        refused(x, "8001", x.worth(0, 0, 8001), 1);
        refused(x, "-8001", x.worth(0, 0, -8001), 1);
        refused(x, "no PART", x.worth(0, 2, 1), 2);
        refused(x, "no METER", x.worth(3, 0, 1), 2);
        add(x, 0, 0, 5);
        add(x, 1, 0, 5);
        add(x, 3, 3, 5);
        add(x, 4, 3, 5);
        refused(x, "edges", x.worth(1, 0, 1), 4);
        refused(x, "edges, 8001", x.worth(1, 0, 8001), 4);
        refused(x, "edges, no PART", x.worth(1, 1, 1), 2);
        refused(x, "ladder", x.worth(2, 0, 1), 4);
        due("stages", x.worth(3, 0, 9), true);
        due("folded", x.worth(4, 0, 11), true);
        due("partOf", x.partOf(3, 0, 2), 9);
        due("read stages", x.read(3, 3), 9);
        due("read folded", x.read(4, 3), 11);
    }

    private static void p7PartOf() {
        StepMeters x = bench(31, 3, -7, 8, 4);
        x.miss(0, 1, 3);
        due("SIZE", x.partOf(0, 1, 0), 4);
        due("MISS", x.partOf(0, 1, 1), 3);
        due("WORTH", x.partOf(0, 0, 2), 2);
        due("BOUND", x.partOf(0, 0, 3), -7);
        due("what 4", x.partOf(0, 0, 4), -10000);
        due("what -1", x.partOf(0, 0, -1), -10000);
        due("no PART", x.partOf(0, 2, 0), -10000);
        due("PART -1", x.partOf(0, -1, 0), -10000);
        due("no METER", x.partOf(1, 0, 0), -10000);
        due("METER -1", x.partOf(-1, 0, 0), -10000);
        add(x, 2, 6, 5);
        due("no BOUND", x.partOf(1, 0, 3), 0);
        due("trouble stays", x.trouble(), 0);
    }

    private static void p8Kind() {
        StepMeters x = bench(31, 4, 1, 8, 4);
        due("kind", x.kind(0, 0), 4);
        due("parts", x.kind(0, 1), 2);
        due("what 2", x.kind(0, 2), -1);
        due("what -1", x.kind(0, -1), -1);
        due("no METER", x.kind(1, 0), -1);
        due("METER -1", x.kind(-1, 1), -1);
        due("far METER", x.kind(MOST, 1), -1);
    }

    private static void p9Read() {
        StepMeters e = bench(100, 0, 0, 10, 10, 5, -1);
        due("edges 0", e.read(0, 0), 1);
        due("edges 5", e.read(0, 5), 2);
        due("edges 9", e.read(0, 9), 2);
        due("edges 10", e.read(0, 10), 4);
        StepMeters l = bench(100, 1, 0, 10, -3, 5);
        due("ladder 6", l.read(0, 6), 0);
        due("ladder 7", l.read(0, 7), 1);
        due("ladder 10", l.read(0, 10), 2);
        due("ladder 12", l.read(0, 12), 3);
        StepMeters b = bench(100, 2, 0, 8, 5, 3);
        due("balance 7", b.read(0, 7), 5);
        due("balance 8", b.read(0, 8), 8);
        due("balance 11", b.read(0, 11), 11);
        due("balance 13", b.read(0, 13), 13);
        due("balance 100", b.read(0, 100), 16);
        StepMeters n = bench(100, 2, 0, 8, -5, 3);
        due("balance with one below 0", n.read(0, 0), -2);
        due("balance with one below 0", n.read(0, 8), 6);
        StepMeters s = bench(100, 3, 50, 50, 50, 50);
        due("stages 49", s.read(0, 49), 3);
        due("stages 50", s.read(0, 50), 4);
        due("stages 99", s.read(0, 99), 7);
        StepMeters f = bench(100, 4, 50, 100, 100, 100);
        due("folded 0", f.read(0, 0), 0);
        due("folded 20", f.read(0, 20), 1);
        due("folded 25: 25 50 100", f.read(0, 25), 2);
        due("folded 45: 45 90 20", f.read(0, 45), 3);
        due("folded 60: 60 80 40", f.read(0, 60), 4);
        due("folded 100: 100 0 0", f.read(0, 100), 7);
        due("no number", f.read(0, 101), LEAST);
        due("-1", f.read(0, -1), LEAST);
        due("no METER", f.read(1, 0), LEAST);
        due("METER -1", f.read(-1, 0), LEAST);
        due("trouble", f.trouble(), 0);
    }

    private static void p10Trail() {
        due("edges", bench(100, 0, 0, 10, 4, 30).trail(0, 9), 2);
        due("edges at", bench(100, 0, 0, 10, 4, 30).trail(0, 30), 7);
        due("ladder", bench(100, 1, 0, 10, -4, 30).trail(0, 6), 2);
        due("balance", bench(100, 2, 0, 8, 4, 2).trail(0, 10), 5);
        due("stages", bench(100, 3, 50, 50, 50, 50).trail(0, 49), 6);
        due("folded", bench(100, 4, 50, 100, 100, 100).trail(0, 60), 3);
        StepMeters again = bench(100, 0, 0, 10, 4, 30);
        due("edges", again.trail(0, 30), 7);
        due("edges, less", again.trail(0, 3), 0);
        StepMeters x = bench(10, 0, 0);
        for (int k = 0; k < 16; k++) {
            x.part(0, 3, 0);
        }
        due("all sixteen", x.trail(0, 3), 65535);
        due("no number", x.trail(0, 11), -1);
        due("no number", x.trail(0, -1), -1);
        due("no METER", x.trail(1, 0), -1);
        due("trouble", x.trouble(), 0);
    }

    private static void p11Rest() {
        due("edges between", bench(100, 0, 0, 30, 4, 10).rest(0, 29), 19);
        due("edges above all", bench(100, 0, 0, 30, 4, 10).rest(0, 100), 70);
        due("edges below all", bench(100, 0, 0, 30, 4, 10).rest(0, 3), 3);
        due("edge below 0", bench(100, 0, 0, -30).rest(0, 3), 33);
        due("ladder", bench(100, 1, 0, 30, -10, 50).rest(0, 25), 5);
        due("ladder", bench(100, 1, 0, 30, -10, 50).rest(0, 69), 39);
        due("balance", bench(100, 2, 0, 8, 5, 3).rest(0, 12), 1);
        due("balance above all", bench(100, 2, 0, 8, 5, 3).rest(0, 100), 84);
        due("balance below 0", bench(100, 2, 0, 8, -5).rest(0, 3), 8);
        due("stages", bench(100, 3, 50, 50, 50).rest(0, 60), 40);
        due("stages below", bench(100, 3, 50, 60, 50).rest(0, 55), -20);
        due("folded", bench(100, 4, 50, 100, 100).rest(0, 60), 40);
        StepMeters s = bench(100, 3, 8000);
        for (int k = 0; k < 14; k++) {
            s.part(0, -8000, 0);
        }
        // 100 + 8,000 doubled, and so on: beyond 1,000,000 behind the seventh.
        due("stages, as far as it goes", s.rest(0, 100), 1000000);
        s.part(0, 8000, 0);
        due("stays that", s.rest(0, 100), 1000000);
        StepMeters f = bench(100, 4, 0, -8000);
        due("folded", f.rest(0, 1), -16002);
        for (int k = 0; k < 5; k++) {
            f.part(0, 0, 0);
        }
        due("folded", f.rest(0, 1), -512064);
        f.part(0, 0, 0);
        due("folded, as far as it goes", f.rest(0, 1), -1000000);
        f.part(0, 0, 0);
        due("stays that", f.rest(0, 1), -1000000);
        due("no number", f.rest(0, 101), LEAST);
        due("no number", f.rest(0, -1), LEAST);
        due("no METER", f.rest(1, 0), LEAST);
    }

    private static void p12Spans() {
        StepMeters x = bench(10, 0, 0, 3, 6, 6, 20);
        due("spans", x.spans(0), 3);
        due("trouble", x.trouble(), 0);
        refused(x, "no METER", x.spans(1), -1, 2);
        refused(x, "METER -1", x.spans(-1), -1, 2);
        due("spans", x.spans(0), 3);
        due("trouble", x.trouble(), 0);
        x.miss(0, 0, 3);
        due("spans with a MISS", x.spans(0), 2);
        x.miss(0, 3, -10);
        due("the last number alone", x.spans(0), 3);
        due("a code twice", bench(9, 2, 0, 4, 4).spans(0), 3);
        StepMeters b = bench(9, 2, 0, 6, 3);
        b.worth(0, 0, 3);
        b.worth(0, 1, 3);
        b.worth(0, 0, 0);
        due("0, 3, 0, 3", b.spans(0), 4);
        due("each number one", bench(15, 2, 0, 8, 4, 2, 1).spans(0), 16);
        due("no PARTS", bench(4095, 3, 0).spans(0), 1);
    }

    private static void p13Span() {
        StepMeters x = bench(10, 0, 0, 3, 6, 6, 20);
        int[][] want = {{0, 2, 0}, {3, 5, 1}, {6, 10, 3}};
        for (int i = 0; i < want.length; i++) {
            for (int what = 0; what < 3; what++) {
                due("span " + i + " " + what, x.span(0, i, what), want[i][what]);
            }
        }
        due("span 3", x.span(0, 3, 0), LEAST);
        due("span -1", x.span(0, -1, 0), LEAST);
        due("far span", x.span(0, MOST, 0), LEAST);
        due("what 3", x.span(0, 0, 3), LEAST);
        due("what -1", x.span(0, 0, -1), LEAST);
        due("no METER", x.span(1, 0, 0), LEAST);
        due("trouble", x.trouble(), 0);
        x.miss(0, 0, -1);
        due("after a MISS", x.span(0, 0, 1), 1);
        StepMeters each = bench(15, 2, 0, 8, 4, 2, 1);
        due("the first number alone", each.span(0, 0, 1), 0);
        due("the second one", each.span(0, 1, 0), 1);
        due("the last number alone", each.span(0, 15, 0), 15);
        due("the last number alone", each.span(0, 15, 1), 15);
        due("and no more", each.span(0, 16, 0), LEAST);
        add(x, 0, 0, 5);
        due("of another METER", x.span(1, 0, 1), 4);
        due("of the first again", x.span(0, 0, 1), 1);
    }

    private static void p14Codes() {
        StepMeters x = bench(9, 2, 0, 6, 3);
        x.worth(0, 0, 0);
        due("0, 3, 0, 3", x.codes(0), 2);
        due("trouble", x.trouble(), 0);
        due("all unlike", bench(15, 2, 0, 8, 4, 2, 1).codes(0), 16);
        StepMeters b = bench(9, 2, 0, 8, 4);
        b.worth(0, 0, -8000);
        b.worth(0, 1, 8000);
        due("far from one another", b.codes(0), 3);
        due("once more", b.codes(0), 3);
        due("0 64 128 192", bench(192, 2, 0, 128, 64).codes(0), 4);
        due("0 64 128 .. by sixteen", bench(4095, 2, 0, 512, 256, 128, 64).codes(0), 16);
        StepMeters least = bench(9, 2, 0);
        for (int k = 0; k < 16; k++) {
            least.part(0, -8000, 0);
            least.miss(0, k, -500);
        }
        least.mend(0);
        due("the least code there can be", least.read(0, 0), -136000);
        due("alone", least.codes(0), 1);
        due("no PARTS", bench(9, 0, 0).codes(0), 1);
        refused(x, "no METER", x.codes(1), -1, 2);
    }

    private static void p15Lacks() {
        StepMeters x = bench(9, 0, 0, 2, 5, 5, 5);
        due("2 and 3", x.lacks(0), 2);
        due("trouble", x.trouble(), 0);
        due("none", bench(15, 2, 0, 8, 4, 2, 1).lacks(0), 0);
        StepMeters b = bench(9, 2, 0, 4, 0);
        b.worth(0, 1, -7);
        due("all below 0: -7, -3", b.lacks(0), 0);
        b.worth(0, 0, 10);
        due("-7 and 3: 0, 1, 2", b.lacks(0), 3);
        due("0 alone", bench(9, 3, 0).lacks(0), 0);
        StepMeters g = bench(9, 0, 0, 0, 0);
        due("2 alone: 0 and 1", g.lacks(0), 2);
        StepMeters w = bench(1, 2, 0, 0, 0, 0, 0, 0, 0, 0, 0, 0, 0, 0, 0, 0, 0, 0, 0);
        for (int k = 0; k < 16; k++) {
            w.worth(0, k, 8000);
        }
        due("as great as set", w.lacks(0), 128000);
        StepMeters first = bench(9, 2, 0, 1, 0);
        first.worth(0, 1, 5);
        first.worth(0, 0, -5);
        due("5 at 0 and 0 behind it", first.lacks(0), 4);
        StepMeters second = bench(9, 2, 0, 2, 1);
        second.worth(0, 0, 0);
        second.worth(0, 1, 5);
        due("0 5 0 5", second.lacks(0), 4);
        second.range(2);
        due("0 5 0", second.lacks(0), 4);
        StepMeters c = bench(4095, 2, 0, -8000, 8000, 8000);
        c.miss(0, 1, 500);
        c.mend(0);
        due("0 and 500", c.lacks(0), 499);
        refused(x, "no METER", x.lacks(-1), -1, 2);
    }

    private static void p16Back() {
        StepMeters x = bench(9, 2, 0, 6, 3);
        due("none", x.back(0), -2);
        due("trouble", x.trouble(), 0);
        x.worth(0, 0, 2);
        due("3 before 2", x.back(0), 6);
        x.worth(0, 1, -1);
        due("0 before -1", x.back(0), 3);
        StepMeters first = bench(9, 2, 0, 1, 0);
        first.worth(0, 1, 5);
        first.worth(0, 0, -5);
        due("the number 1", first.back(0), 1);
        first.worth(0, 0, 5);
        due("no more", first.back(0), -2);
        due("5 0 only once", bench(9, 2, 0, 6, 3).back(0), -2);
        due("one code", bench(9, 0, 0).back(0), -2);
        StepMeters last = bench(9, 2, 0, 9, 3);
        last.worth(0, 0, 0);
        due("the last number", last.back(0), 9);
        refused(x, "no METER", x.back(1), -1, 2);
    }

    private static void p17Widest() {
        due("the first of two", bench(7, 0, 0, 2, 5).widest(0), 30001);
        due("the last", bench(9, 0, 0, 2, 5).widest(0), 50002);
        due("the first", bench(9, 0, 0, 7).widest(0), 70000);
        due("all", bench(4095, 1, 0).widest(0), 40960000);
        StepMeters x = bench(15, 2, 0, 8, 4, 2, 1);
        due("each one wide", x.widest(0), 10000);
        due("trouble", x.trouble(), 0);
        refused(x, "no METER", x.widest(1), -1, 2);
    }

    private static void p18Edge() {
        StepMeters x = bench(20, 0, 0, 3, 6, 6);
        due("0", x.edge(0, 0), 0);
        due("1", x.edge(0, 1), 3);
        due("2, which lacks", x.edge(0, 2), 6);
        due("3", x.edge(0, 3), 6);
        due("4", x.edge(0, 4), 21);
        due("trouble", x.trouble(), 0);
        due("least", x.edge(0, LEAST), 0);
        due("most", x.edge(0, MOST), 21);
        StepMeters b = bench(9, 2, 0, 6, 3);
        b.worth(0, 0, 2);
        due("one that goes back", b.edge(0, 3), 3);
        due("one that goes back", b.edge(0, 5), 9);
        refused(x, "no METER", x.edge(1, 0), -1, 2);
    }

    private static void p19Line() {
        StepMeters x = bench(100, 0, 0, 10, 25, 30, 40);
        // EDGES 10, 25, 30, 40: 3 * 15 - 30 = 15; 3 * 20 - 2 * 30 = 0.
        due("worst", x.line(0, 0), 15);
        due("its k", x.line(0, 1), 2);
        due("trouble", x.trouble(), 0);
        StepMeters y = bench(100, 0, 0, 10, 15, 35, 40);
        // 15 - 30 = -15 and 75 - 60 = 15: the least k of the two.
        due("worst without its sign", y.line(0, 0), 15);
        due("the least k", y.line(0, 1), 2);
        StepMeters late = bench(100, 0, 0, 10, 20, 25, 40);
        due("below the line", late.line(0, 0), 15);
        due("its k", late.line(0, 1), 3);
        StepMeters gap = bench(100, 2, 0, 50, 10);
        gap.worth(0, 1, 1);
        gap.worth(0, 0, 4);
        // Codes 0 1 4 5 from 0, 10, 50, 60: EDGES 10 50 50 50 60.
        due("EDGES of codes that lack", gap.line(0, 0), 4 * 40 - 50);
        due("their k", gap.line(0, 1), 2);
        StepMeters flat = bench(9, 0, 0, 0, 0, 0);
        due("all at 0", flat.line(0, 0), 0);
        due("k at least 1", flat.line(0, 1), 1);
        refused(x, "what 2", x.line(0, 2), -1, 1);
        refused(x, "what -1", x.line(0, -1), -1, 1);
        refused(x, "no METER", x.line(1, 2), -1, 2);
        StepMeters one = bench(9, 0, 0, 4);
        due("two at the last number", bench(9, 0, 0, 2, 9, 9).line(0, 0), 7);
        refused(one, "one code only", one.line(0, 0), -1, 5);
        refused(one, "what ahead of it", one.line(0, 7), -1, 1);
        one.part(0, 9, 0);
        due("two at the last number", one.line(0, 0), 0);
        StepMeters back = bench(9, 2, 0, 6, 3);
        back.worth(0, 0, 2);
        refused(back, "one that goes back", back.line(0, 0), -1, 5);
        StepMeters great = bench(4095, 2, 0, 4095, 1);
        for (int k = 0; k < 14; k++) {
            great.part(0, 0, 0);
            great.worth(0, k + 2, 8000);
        }
        great.worth(0, 0, 8000);
        great.worth(0, 1, 8000);
        // 112,000 at 0 and 120,000 from 1 on: EDGES up to that of 112,000 are 0, those behind 1.
        due("great codes", great.line(0, 0), 111999);
        due("their k", great.line(0, 1), 112000);
        great.miss(0, 1, 500);
        // PARTS of 3,595 and 501 now: from 501 on it is 120,000.
        great.miss(0, 0, -500);
        due("greater ones", great.line(0, 0), 111999L * 501);
    }

    private static void p20Covered() {
        due("powers", bench(9, 2, 0, 8, 4, 2, 1).covered(0), -2);
        due("no PARTS", bench(9, 2, 0).covered(0), -2);
        due("the last alone, 2", bench(9, 2, 0, 2).covered(0), 0);
        due("the last alone, 1", bench(9, 2, 0, 1).covered(0), -2);
        due("0", bench(9, 2, 0, 0).covered(0), -2);
        due("below 0", bench(9, 2, 0, 1, -1).covered(0), 0);
        due("below 0, 0 ahead", bench(9, 2, 0, 0, -1).covered(0), 1);
        due("the first of two", bench(9, 2, 0, 9, 5, 1, 1).covered(0), 0);
        due("a middle one", bench(9, 2, 0, 6, 4, 1, 1).covered(0), 1);
        StepMeters x = bench(9, 2, 0, 3, 1, 1);
        due("just", x.covered(0), -2);
        due("trouble", x.trouble(), 0);
        x.miss(0, 2, -1);
        due("as they are", x.covered(0), 0);
        refused(x, "no METER", x.covered(1), -1, 2);
        for (int kind : new int[] {0, 1, 3, 4}) {
            StepMeters other = bench(9, kind, 0, 1);
            refused(other, "another kind", other.covered(0), -1, 4);
        }
    }

    private static void p21Tail() {
        due("powers", bench(99, 2, 0, 8, 4, 2, 1).tail(0), 0);
        due("no PARTS", bench(99, 2, 0).tail(0), 0);
        due("2 lacks", bench(99, 2, 0, 8, 4, 1).tail(0), 2);
        due("no further than to RANGE", bench(2, 2, 0, 8, 5, 1).tail(0), 1);
        due("as far as RANGE", bench(4, 2, 0, 8, 5, 1).tail(0), 3);
        StepMeters x = bench(99, 2, 0, 8, 4, 2, 1);
        x.miss(0, 0, 2);
        due("as they are", x.tail(0), 2);
        due("trouble", x.trouble(), 0);
        x.worth(0, 3, 100);
        x.miss(0, 3, -1);
        due("great WORTHS: 0 less 100 is the least of them", x.tail(0) < 0, true);
        StepMeters below = bench(99, 2, 0, -5, 1);
        below.worth(0, 0, -7);
        // All together is -4, so 0 alone: its code is -7 + 1.
        due("together below 0", below.tail(0), 6);
        StepMeters great = bench(99, 2, 0, 0, 1);
        great.worth(0, 0, 50);
        due("below 0", great.tail(0), -50);
        great.worth(0, 1, 60);
        due("0 is told too", great.tail(0), -50);
        due("0 is the first number", bench(99, 2, 0, 2).tail(0), 1);
        refused(x, "no METER", x.tail(1), -1, 2);
        for (int kind : new int[] {0, 1, 3, 4}) {
            StepMeters other = bench(9, kind, 0, 1);
            refused(other, "another kind", other.tail(0), -1, 4);
        }
    }

    private static void p22Mend() {
        StepMeters x = bench(31, 2, 0, 8, 8000, 2, -8000);
        x.miss(0, 0, 1);
        x.miss(0, 1, 500);
        x.miss(0, 3, -500);
        x.worth(0, 2, 70);
        due("mend", x.mend(0), true);
        due("trouble", x.trouble(), 0);
        int[] want = {9, 8500, 2, -8500};
        for (int k = 0; k < want.length; k++) {
            due("worth " + k, x.partOf(0, k, 2), want[k]);
        }
        due("miss stays", x.partOf(0, 0, 1), 1);
        due("size stays", x.partOf(0, 0, 0), 8);
        due("an act", x.size(4), 11);
        due("taken back", x.undo(), 1);
        due("worth 0", x.partOf(0, 0, 2), 8);
        due("worth 2", x.partOf(0, 2, 2), 70);
        due("no PARTS", bench(9, 2, 0).mend(0), true);
        refused(x, "no METER", x.mend(1), 2);
        for (int kind : new int[] {0, 1, 3, 4}) {
            StepMeters other = bench(9, kind, 0, 1);
            refused(other, "another kind", other.mend(0), 4);
        }
    }

    private static void p23Count() {
        StepMeters x = bench(20, 0, 0, 5, 11);
        due("all of 1", x.count(0, 0, 20, 1, 1), 6);
        due("trouble", x.trouble(), 0);
        due("from and to are told too", x.count(0, 5, 10, 1, 1), 6);
        due("by threes 1 4 7 10", x.count(0, 1, 12, 3, 1), 2);
        due("one number", x.count(0, 20, 20, 9, 2), 1);
        due("a great step", x.count(0, 7, 20, MOST, 1), 1);
        due("no such code", x.count(0, 0, 20, 1, 9), 0);
        due("no such code", x.count(0, 0, 20, 1, LEAST), 0);
        refused(x, "from -1", x.count(0, -1, 20, 1, 1), -1, 1);
        refused(x, "to 21", x.count(0, 0, 21, 1, 1), -1, 1);
        refused(x, "from 4 to 3", x.count(0, 4, 3, 1, 1), -1, 1);
        refused(x, "step 0", x.count(0, 0, 20, 0, 1), -1, 1);
        refused(x, "step -1", x.count(0, 0, 20, -1, 1), -1, 1);
        refused(x, "no METER", x.count(1, -1, 20, 0, 1), -1, 2);
    }

    private static void p24Noise() {
        StepMeters x = new StepMeters();
        due("100", x.noise(100, 1000), 1);
        due("-100", x.noise(-100, 1), 2);
        due("trouble", x.trouble(), 0);
        refused(x, "101", x.noise(101, 1), -1, 1);
        refused(x, "-101", x.noise(-101, 1), -1, 1);
        refused(x, "times 0", x.noise(0, 0), -1, 1);
        refused(x, "times 1001", x.noise(0, 1001), -1, 1);
        for (int i = 3; i <= 8; i++) {
            due("noise", x.noise(7, 7), i);
        }
        refused(x, "a ninth", x.noise(7, 7), -1, 3);
        refused(x, "a ninth, 101", x.noise(101, 7), -1, 1);
        due("size(2)", x.size(2), 8);
        due("no act", x.size(4), 0);
    }

    private static void p25Still() {
        StepMeters x = bench(20, 0, 0, 5, 11);
        due("none", x.still(), 0);
        x.noise(1, 1);
        x.noise(1, 1);
        due("two", x.still(), 2);
        due("size(2)", x.size(2), 0);
        due("none", x.still(), 0);
        due("mean is the code", x.mean(0, 4, false), 0);
        x.noise(101, 1);
        x.still();
        due("trouble stays", x.trouble(), 1);
        due("noise", x.noise(2, 1), 1);
    }

    private static void p26Mean() {
        StepMeters x = bench(20, 2, 0, 16, 8, 4, 2, 1);
        due("no NOISE", x.mean(0, 9, false), 9);
        due("no NOISE", x.mean(0, 9, true), 1);
        due("trouble", x.trouble(), 0);
        x.noise(0, 1);
        x.noise(3, 1);
        due("9 and 12", x.mean(0, 9, false), 21);
        due("of two", x.mean(0, 9, true), 2);
        x.noise(-9, 2);
        due("9, 12, 0, 0", x.mean(0, 9, false), 21);
        due("of four", x.mean(0, 9, true), 4);
        due("no lower than 0: 1, 4, 0, 0", x.mean(0, 1, false), 5);
        due("no higher than 20: 20, 20, 11, 11 is 62 of 4", x.mean(0, 20, false), 31);
        due("in lowest terms", x.mean(0, 20, true), 2);
        refused(x, "no number", x.mean(0, 21, false), -1, 2);
        refused(x, "no number", x.mean(0, -1, true), -1, 2);
        refused(x, "no METER", x.mean(1, 0, true), -1, 2);
        StepMeters b = bench(20, 2, 0, 5);
        b.worth(0, 0, -6);
        b.noise(0, 2);
        b.noise(-5, 2);
        due("below 0", b.mean(0, 5, false), -3);
        due("lower above 0", b.mean(0, 5, true), 1);
        due("0", b.mean(0, 4, false), 0);
        due("of 1", b.mean(0, 4, true), 1);
        due("trouble", b.trouble(), 0);
        StepMeters g = bench(1, 2, 0, 0, 0, 0, 0, 0, 0, 0, 0, 0, 0, 0, 0, 0, 0, 0, 1);
        for (int k = 0; k < 16; k++) {
            g.worth(0, k, 8000);
        }
        for (int i = 0; i < 7; i++) {
            g.noise(100, 1000);
        }
        g.noise(-100, 999);
        due("great ones", g.mean(0, 0, false), 7000L * 128000 + 999L * 120000);
        due("of 7,999", g.mean(0, 0, true), 7999);
    }

    private static void p27Fault() {
        StepMeters x = bench(15, 2, 0, 8, 4, 2, 1);
        due("500", x.fault(0, 0, 500), 1);
        due("-500", x.fault(0, 3, -500), 2);
        due("trouble", x.trouble(), 0);
        refused(x, "501", x.fault(0, 0, 501), -1, 1);
        refused(x, "-501", x.fault(0, 0, -501), -1, 1);
        refused(x, "no PART", x.fault(0, 4, 501), -1, 2);
        refused(x, "PART -1", x.fault(0, -1, 0), -1, 2);
        refused(x, "no METER", x.fault(1, 0, 0), -1, 2);
        for (int i = 3; i <= 10; i++) {
            due("fault", x.fault(0, 1, i), i);
        }
        refused(x, "an eleventh", x.fault(0, 0, 1), -1, 3);
        refused(x, "an eleventh, 501", x.fault(0, 0, 501), -1, 1);
        due("size(3)", x.size(3), 10);
        due("MISS stays", x.partOf(0, 0, 1), 0);
        due("no act", x.size(4), 6);
    }

    private static void p28Clear() {
        StepMeters x = bench(15, 2, 0, 8, 4, 2, 1);
        due("none", x.clear(), 0);
        x.fault(0, 0, 1);
        x.fault(0, 1, 1);
        x.fault(0, 9, 1);
        due("two", x.clear(), 2);
        due("trouble stays", x.trouble(), 2);
        due("size(3)", x.size(3), 0);
        due("showing", x.showing(8), 0);
        due("undo doesn't bring them", x.undo(), 1);
        due("size(3)", x.size(3), 0);
    }

    private static void p29Shown() {
        StepMeters x = bench(15, 2, 0, 8, 4, 2, 1);
        x.fault(0, 0, 1);
        x.fault(0, 0, 0);
        x.fault(0, 2, -2);
        due("8 is less", x.shown(0), 8);
        due("the MISS it has", x.shown(1), -2);
        due("trouble", x.trouble(), 0);
        due("2 at 0", x.shown(2), 0);
        refused(x, "no FAULT", x.shown(3), -1, 2);
        refused(x, "FAULT -1", x.shown(-1), -1, 2);
        x.miss(0, 0, 1);
        due("it has it now", x.shown(0), -2);
        due("and this not", x.shown(1), 8);
        StepMeters wide = bench(9, 0, 0, 20);
        wide.fault(0, 0, -10);
        due("beyond RANGE", wide.shown(0), -2);
        wide.range(10);
        due("the last number", wide.shown(0), 10);
        StepMeters l = bench(50, 1, 0, 10, 10, 10);
        l.fault(0, 1, -2);
        due("a sum behind it", l.shown(0), 18);
        StepMeters s = bench(50, 3, 25, 25, 25);
        s.fault(0, 0, 10);
        due("a stage ahead", s.shown(0), 38);
    }

    private static void p30Shows() {
        StepMeters x = bench(40, 0, 0, 10, 20, 30);
        due("none", x.shows(), 0);
        x.fault(0, 0, 0);
        due("none that is shown", x.shows(), 0);
        x.fault(0, 0, 2);
        due("one", x.shows(), 1);
        x.fault(0, 1, 2);
        due("10 .. 11 and 20 .. 21", x.shows(), 2);
        x.fault(0, 2, -15);
        due("15 .. 29 has the second", x.shows(), 2);
        x.fault(0, 0, 5);
        due("10 .. 14 has the first", x.shows(), 2);
        x.fault(0, 2, 3);
        due("30 .. 32 too", x.shows(), 3);
        StepMeters g = new StepMeters();
        g.range(40);
        // 10 shows four FAULTS, but who takes it needs three numbers then.
        int[][] runs = {{1, 10}, {9, 11}, {9, 11}, {10, 20}, {10, 20}, {19, 30}};
        for (int[] run : runs) {
            int m = add(g, 0, 0, run[0]);
            g.fault(m, 0, run[1] - run[0]);
        }
        due("9 and 19", g.shows(), 2);
        due("size(3)", g.size(3), 6);
        StepMeters ends = bench(30, 0, 0, 0, 30);
        ends.fault(0, 0, 1);
        due("0 alone", ends.shows(), 1);
        ends.fault(0, 1, 1);
        due("and RANGE alone", ends.shows(), 2);
        ends.clear();
        due("none", ends.shows(), 0);
        ends.fault(0, 1, 1);
        due("RANGE alone", ends.shows(), 1);
        ends.fault(0, 1, 0);
        due("and one that none shows", ends.shows(), 1);
        ends.clear();
        ends.fault(0, 0, 1);
        ends.fault(0, 0, 1);
        due("two at once", ends.shows(), 1);
        ends.clear();
        ends.fault(0, 0, 1);
        ends.fault(0, 1, 1);
        due("then two apart", ends.shows(), 2);
        StepMeters wide = new StepMeters();
        wide.range(4095);
        for (int m = 0; m < 7; m++) {
            add(wide, 0, 0, 500 * m);
            wide.fault(m, 0, 500);
        }
        due("each shown often", wide.shows(), 7);
        StepMeters ten = new StepMeters();
        ten.range(100);
        ten.meter(0);
        for (int k = 0; k < 10; k++) {
            ten.part(0, 5 + 9 * k, 0);
            ten.fault(0, k, 1);
        }
        due("ten apart", ten.shows(), 10);
        due("no NONE", ten.trouble(), 0);
    }

    private static void p31Showing() {
        StepMeters x = bench(40, 0, 0, 10, 20);
        x.fault(0, 0, 5);
        x.fault(0, 1, -6);
        x.fault(0, 1, -20);
        due("9", x.showing(9), 4);
        due("10", x.showing(10), 5);
        due("14", x.showing(14), 7);
        due("19", x.showing(19), 6);
        due("20", x.showing(20), 0);
        due("40", x.showing(40), 0);
        due("41", x.showing(41), -1);
        due("-1", x.showing(-1), -1);
        due("trouble", x.trouble(), 0);
        x.undo();
        due("one PART less: FAULTS of it are gone", x.showing(14), 1);
    }

    private static void p32Alike() {
        StepMeters x = bench(40, 0, 0, 10, 20, 10);
        due("none", x.alike(), 0);
        x.fault(0, 0, 5);
        due("one", x.alike(), 0);
        x.fault(0, 2, 5);
        due("a like PART", x.alike(), 1);
        x.fault(0, 1, 0);
        x.fault(0, 0, 0);
        due("two that change nothing", x.alike(), 2);
        x.fault(0, 0, 5);
        due("three of the first sort", x.alike(), 4);
        add(x, 0, 0, 10, 20, 10);
        x.fault(1, 0, 5);
        due("another METER's doesn't count", x.alike(), 4);
        StepMeters ends = bench(30, 0, 0, 0, 30);
        ends.fault(0, 0, 0);
        ends.fault(0, 0, 1);
        due("0 alone", ends.alike(), 0);
        ends.fault(0, 1, 1);
        due("RANGE alone", ends.alike(), 0);
        ends.clear();
        ends.fault(0, 1, 0);
        ends.fault(0, 1, 1);
        due("RANGE alone", ends.alike(), 0);
        x.fault(1, 1, 25);
        x.fault(1, 1, 30);
        due("beyond RANGE", x.alike(), 5);
        x.range(50);
        due("no more", x.alike(), 4);
        x.range(14);
        due("20 is beyond", x.alike(), 4 + 1);
    }

    private static void p33Beyond() {
        StepMeters x = bench(20, 3, 10, 10, 10);
        due("0, 2, .. 18, 0, .. 22 of 21", bench(20, 3, 10, 10).beyond(0), -2);
        due("at 13: 6, 12", x.beyond(0), -2);
        due("trouble", x.trouble(), 0);
        x.miss(0, 0, 4);
        due("10 - 14 is below 0", x.beyond(0), 10);
        due("none taken off: 11 doubled", bench(20, 3, 100, 10).beyond(0), 11);
        due("the last number", bench(20, 2, 0, 21, -1).beyond(0), 20);
        due("balance", bench(20, 2, 0, 5).beyond(0), -2);
        due("balance below 0", bench(20, 2, 0, -5).beyond(0), 16);
        due("edges below 0", bench(20, 0, 0, -21).beyond(0), 0);
        due("no PARTS", bench(20, 4, 0).beyond(0), -2);
        refused(x, "no METER", x.beyond(1), -1, 2);
    }

    private static void p34Joined() {
        StepMeters x = bench(20, 2, 0, 16, 8);
        int b = add(x, 2, 0, 4, 2, 1);
        due("19", x.joined(0, b, 10, 19), 163);
        due("trouble", x.trouble(), 0);
        due("factor 1000", x.joined(0, b, 1000, 9), 8001);
        due("factor -1000", x.joined(0, b, -1000, 9), -7999);
        due("factor 0", x.joined(0, b, 0, 9), 1);
        due("with itself", x.joined(0, 0, 1, 13), 8);
        due("with itself", x.joined(b, b, 1, 12), 7 + 5);
        refused(x, "factor 1001", x.joined(0, b, 1001, 9), LEAST, 1);
        refused(x, "factor -1001", x.joined(0, b, -1001, 9), LEAST, 1);
        refused(x, "no METER", x.joined(2, b, 1001, 9), LEAST, 2);
        refused(x, "no other", x.joined(0, 2, 1, 9), LEAST, 2);
        refused(x, "no number", x.joined(0, b, 1001, 21), LEAST, 2);
        refused(x, "no number", x.joined(0, b, 1, -1), LEAST, 2);
        int s = add(x, 3, 100, 1);
        due("10 doubled is 20", x.joined(s, b, 1, 10), 7);
        refused(x, "11 doubled is beyond", x.joined(s, b, 1, 11), LEAST, 1);
        int f = add(x, 3, 0, 9);
        refused(x, "below 0", x.joined(f, b, 1, 8), LEAST, 1);
        due("at 0", x.joined(f, b, 3, 9), 3);
    }

    private static void p35Undo() {
        StepMeters x = new StepMeters();
        due("none", x.undo(), 0);
        x.range(30);
        x.range(31);
        due("undo", x.undo(), 1);
        due("range", x.size(0), 30);
        due("undo", x.undo(), 1);
        due("range", x.size(0), 255);
        due("none", x.undo(), 0);
        due("a METER ahead", x.meter(0), 0);
        int m = add(x, 3, 5, 5, 6);
        x.worth(m, 0, 99);
        x.worth(m, 0, 98);
        x.miss(m, 1, 7);
        x.miss(m, 1, 8);
        x.fault(m, 0, 1);
        x.fault(m, 2, 1);
        due("trouble is told", x.trouble(), 2);
        x.undo();
        due("trouble stays", x.trouble(), 2);
        due("miss", x.partOf(m, 1, 1), 7);
        x.undo();
        due("miss", x.partOf(m, 1, 1), 0);
        x.undo();
        due("worth", x.partOf(m, 0, 2), 99);
        x.part(m, 7, 5);
        x.fault(m, 2, 1);
        x.fault(m, 1, 2);
        due("worth told anew", x.partOf(m, 0, 2), 4);
        x.undo();
        due("worth as it was", x.partOf(m, 0, 2), 99);
        due("parts", x.kind(m, 1), 2);
        due("FAULTS of it are gone", x.size(3), 2);
        due("the others stay in order: MISS 1 of PART 0", x.showing(8), 1);
        x.undo();
        due("a WORTH", x.partOf(m, 0, 2), 2);
        x.undo();
        due("and of PART 1", x.size(3), 1);
        due("parts", x.kind(m, 1), 1);
        x.undo();
        due("parts", x.kind(m, 1), 0);
        due("and of PART 0", x.size(3), 0);
        x.undo();
        due("meters", x.size(1), 1);
        x.undo();
        due("meters", x.size(1), 0);
        due("acts", x.size(4), 0);
        StepMeters y = bench(9, 2, 0, 5);
        add(y, 2, 0, 7);
        y.miss(1, 0, 1);
        y.mend(1);
        due("mended", y.partOf(1, 0, 2), 8);
        y.undo();
        due("not mended", y.partOf(1, 0, 2), 7);
        due("nor the other", y.partOf(0, 0, 2), 5);
        x.noise(1, 1);
        x.part(5, 1, 1);
        due("no acts", x.undo(), 0);
        due("noise stays", x.size(2), 1);
        sixtyActs();
    }

    private static void sixtyActs() {
        StepMeters x = new StepMeters();
        for (int i = 1; i <= 70; i++) {
            x.range(100 + i);
            due("acts", x.size(4), Math.min(i, 60));
        }
        due("undo", x.undo(), 1);
        due("acts", x.size(4), 59);
        due("range", x.size(0), 169);
        x.range(9);
        x.range(8);
        due("acts", x.size(4), 60);
        for (int i = 0; i < 60; i++) {
            due("undo", x.undo(), 1);
        }
        due("no more", x.undo(), 0);
        due("range", x.size(0), 111);
    }

    private static void p36Size() {
        StepMeters x = bench(40, 0, 0, 10, 20);
        x.noise(1, 1);
        x.fault(0, 0, 1);
        x.fault(0, 0, 2);
        x.fault(0, 0, 3);
        int[] want = {40, 1, 1, 3, 4};
        for (int what = 0; what < want.length; what++) {
            due("size " + what, x.size(what), want[what]);
        }
        due("size 5", x.size(5), -1);
        due("size -1", x.size(-1), -1);
        due("size most", x.size(MOST), -1);
    }

    private static void p37Trouble() {
        StepMeters x = bench(40, 0, 0, 10, 20);
        due("fine", x.trouble(), 0);
        x.meter(9);
        due("1", x.trouble(), 1);
        due("again", x.trouble(), 1);
        // Calls that tell no TROUBLE leave that of the latest one that does.
        x.read(9, 9);
        x.trail(9, 9);
        x.rest(0, 5);
        x.kind(0, 0);
        x.partOf(0, 0, 0);
        x.span(0, 0, 0);
        x.size(9);
        x.showing(-1);
        x.still();
        x.clear();
        x.shows();
        x.alike();
        x.undo();
        due("still 1", x.trouble(), 1);
        x.spans(0);
        due("fine again", x.trouble(), 0);
        x.spans(1);
        due("2", x.trouble(), 2);
        x.mend(0);
        due("4", x.trouble(), 4);
        x.line(0, 0);
        due("5", x.trouble(), 5);
        x.miss(0, 0, 1);
        due("fine", x.trouble(), 0);
        while (x.meter(0) != -1) {
            due("fine", x.trouble(), 0);
        }
        due("3", x.trouble(), 3);
        x.shown(0);
        due("2", x.trouble(), 2);
        x.count(0, 0, 9, 1, 0);
        due("fine", x.trouble(), 0);
    }

    public static void main(String[] args) {
        Runnable[] all = {
            PromiseTest::p1NewObject, PromiseTest::p2Range, PromiseTest::p3Meter,
            PromiseTest::p4Part, PromiseTest::p5Miss, PromiseTest::p6Worth, PromiseTest::p7PartOf,
            PromiseTest::p8Kind, PromiseTest::p9Read, PromiseTest::p10Trail, PromiseTest::p11Rest,
            PromiseTest::p12Spans, PromiseTest::p13Span, PromiseTest::p14Codes, PromiseTest::p15Lacks,
            PromiseTest::p16Back, PromiseTest::p17Widest, PromiseTest::p18Edge, PromiseTest::p19Line,
            PromiseTest::p20Covered, PromiseTest::p21Tail, PromiseTest::p22Mend, PromiseTest::p23Count,
            PromiseTest::p24Noise, PromiseTest::p25Still, PromiseTest::p26Mean, PromiseTest::p27Fault,
            PromiseTest::p28Clear, PromiseTest::p29Shown, PromiseTest::p30Shows, PromiseTest::p31Showing,
            PromiseTest::p32Alike, PromiseTest::p33Beyond, PromiseTest::p34Joined, PromiseTest::p35Undo,
            PromiseTest::p36Size, PromiseTest::p37Trouble};
        for (int i = 0; i < all.length; i++) {
            of("promise " + (i + 1));
            all[i].run();
        }
        end();
    }
}
