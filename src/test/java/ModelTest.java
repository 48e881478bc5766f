import java.util.ArrayList;
import java.util.List;

/** Long runs of calls from fixed seeds: StepMeters must answer each as the Model does. */
public final class ModelTest {
    private static final int CALLS = 512;

    private long seed;
    private final int style;
    private final StepMeters real = new StepMeters();
    private final Model model = new Model();
    private final List<String> told = new ArrayList<>();
    private String call;
    private long got;
    private long due;

    private ModelTest(long seed) {
        this.seed = seed * 2862933555777941757L + 3037000493L;
        this.style = (int) (seed % 6);
    }

    private int below(int n) {
        seed = seed * 6364136223846793005L + 1442695040888963407L;
        return (int) ((seed >>> 33) % n);
    }

    private int from(int least, int most) {
        return least + below(most - least + 1);
    }

    private int pick(int... of) {
        return of[below(of.length)];
    }

    private int wild() {
        return pick(Integer.MIN_VALUE, Integer.MAX_VALUE, -1, -2, 99, 4096, 8001, -8001, 501, -501);
    }

    private int orWild(int v) {
        return below(40) == 0 ? wild() : v;
    }

    private int aMeter() {
        return orWild(below(Math.max(1, real.size(1)) + (below(12) == 0 ? 1 : 0)));
    }

    private int aPart(int m) {
        return orWild(below(Math.max(1, real.kind(m, 1)) + (below(12) == 0 ? 1 : 0)));
    }

    private int aNumber() {
        return below(10) == 0 ? pick(0, real.size(0), real.size(0) + 1, -1) : orWild(below(real.size(0) + 1));
    }

    private int aRange() {
        if (below(8) == 0) {
            return pick(0, 1, 2, 4096, -1, 255);
        }
        return style == 5 && below(3) == 0 ? pick(4095, 1000) : from(1, 120);
    }

    private int aSize() {
        switch (style) {
            case 0: return orWild(1 << below(8));
            case 1: return orWild(from(-20, 60));
            case 2: return orWild(from(0, 12));
            case 3: return orWild(from(-8000, 8000));
            case 4: return orWild(pick(64, 32, 16, 8, 4, 2, 1, 0, -3));
            default: return below(6) == 0 ? pick(8000, -8000, 8001, -8001) : from(0, 300);
        }
    }

    private int aBound() {
        return style == 3 ? from(-8000, 8000) : below(20) == 0 ? pick(8000, -8000, 8001, -8001, 8500) : from(-10, 60);
    }

    private int aMiss() {
        return below(15) == 0 ? pick(500, -500, 501, -501, 0) : from(-4, 4);
    }

    private int aWorth() {
        return below(15) == 0 ? pick(8000, -8000, 8001, -8001, 0) : style == 3 ? from(-8000, 8000) : from(-4, 40);
    }

    private void answer(String name, long real, long model, int... with) {
        StringBuilder text = new StringBuilder(name).append('(');
        for (int i = 0; i < with.length; i++) {
            text.append(i == 0 ? "" : ", ").append(with[i]);
        }
        call = text.append(')').toString();
        got = real;
        due = model;
    }

    private static int bit(boolean b) {
        return b ? 1 : 0;
    }

    private void change() {
        int m = aMeter();
        int k = aPart(m);
        switch (pick(0, 1, 1, 2, 2, 2, 2, 2, 3, 3, 3, 4, 4, 5, 6, 7, 7)) {
            case 0: { int r = aRange(); answer("range", bit(real.range(r)), bit(model.range(r)), r); break; }
            case 1: {
                if (real.size(1) > 1 + style % 4 && below(6) != 0) {
                    m = below(real.size(1));
                    int s = aSize(), b = aBound();
                    answer("part", real.part(m, s, b), model.part(m, s, b), m, s, b);
                    break;
                }
                int a = orWild(style == 0 ? 2 : below(5)); 
                answer("meter", real.meter(a), model.meter(a), a);
                break;
            }
            case 2: { int s = aSize(), b = aBound(); answer("part", real.part(m, s, b), model.part(m, s, b), m, s, b); break; }
            case 3: { int v = aMiss(); answer("miss", bit(real.miss(m, k, v)), bit(model.miss(m, k, v)), m, k, v); break; }
            case 4: { int v = aWorth(); answer("worth", bit(real.worth(m, k, v)), bit(model.worth(m, k, v)), m, k, v); break; }
            case 5: { answer("mend", bit(real.mend(m)), bit(model.mend(m)), m); break; }
            case 6: { answer("undo", real.undo(), model.undo()); break; }
            default: { int v = aMiss(); answer("fault", real.fault(m, k, v), model.fault(m, k, v), m, k, v); break; }
        }
    }

    private void readOf() {
        int m = aMeter();
        int k = aPart(m);
        int x = aNumber();
        switch (below(13)) {
            case 0: { int w = orWild(below(5)); answer("partOf", real.partOf(m, k, w), model.partOf(m, k, w), m, k, w); break; }
            case 1: { int w = orWild(below(3)); answer("kind", real.kind(m, w), model.kind(m, w), m, w); break; }
            case 2: answer("read", real.read(m, x), model.read(m, x), m, x); break;
            case 3: answer("trail", real.trail(m, x), model.trail(m, x), m, x); break;
            case 4: answer("rest", real.rest(m, x), model.rest(m, x), m, x); break;
            case 5: answer("spans", real.spans(m), model.spans(m), m); break;
            case 6: { int i = orWild(below(pick(3, 12, 60))), w = orWild(below(3)); answer("span", real.span(m, i, w), model.span(m, i, w), m, i, w); break; }
            case 7: answer("codes", real.codes(m), model.codes(m), m); break;
            case 8: answer("lacks", real.lacks(m), model.lacks(m), m); break;
            case 9: answer("back", real.back(m), model.back(m), m); break;
            case 10: answer("widest", real.widest(m), model.widest(m), m); break;
            case 11: { int e = orWild(from(-3, 40)); answer("edge", real.edge(m, e), model.edge(m, e), m, e); break; }
            default: { int w = orWild(below(3)); answer("line", real.line(m, w), model.line(m, w), m, w); break; }
        }
    }

    /** Makes the NOISE or the FAULTS none: seldom, so that they pile up. */
    private void rarely(boolean noise) {
        if (below(6) != 0) {
            answer("shows", real.shows(), model.shows());
        } else if (noise) {
            answer("still", real.still(), model.still());
        } else {
            answer("clear", real.clear(), model.clear());
        }
    }

    private void restOf() {
        int m = aMeter();
        int x = aNumber();
        switch (below(15)) {
            case 0: answer("covered", real.covered(m), model.covered(m), m); break;
            case 1: answer("tail", real.tail(m), model.tail(m), m); break;
            case 2: {
                int to = below(8) == 0 ? aNumber() : from(x, Math.max(x, real.size(0))), step = below(6) == 0 ? wild() : from(1, 4), c = below(2) == 0 ? real.read(m, x) : from(-2, 10);
                answer("count", real.count(m, x, to, step, c), model.count(m, x, to, step, c), m, x, to, step, c);
                break;
            }
            case 3: {
                int d = below(10) == 0 ? pick(100, -100, 101, -101) : from(-6, 6);
                int t = below(10) == 0 ? pick(0, 1000, 1001, -1) : from(1, 6);
                answer("noise", real.noise(d, t), model.noise(d, t), d, t);
                break;
            }
            case 4: rarely(true); break;
            case 5: { boolean l = below(2) == 0; answer("mean", real.mean(m, x, l), model.mean(m, x, l), m, x, bit(l)); break; }
            case 6: rarely(false); break;
            case 7: { int i = orWild(below(10)); answer("shown", real.shown(i), model.shown(i), i); break; }
            case 8: answer("shows", real.shows(), model.shows()); break;
            case 9: answer("showing", real.showing(x), model.showing(x), x); break;
            case 10: answer("alike", real.alike(), model.alike()); break;
            case 11: answer("beyond", real.beyond(m), model.beyond(m), m); break;
            case 12: {
                int o = aMeter(), f = below(10) == 0 ? pick(1000, -1000, 1001, -1001) : from(-9, 9);
                answer("joined", real.joined(m, o, f, x), model.joined(m, o, f, x), m, o, f, x);
                break;
            }
            case 13: { int w = orWild(below(6)); answer("size", real.size(w), model.size(w), w); break; }
            default: answer("trouble", real.trouble(), model.trouble()); break;
        }
    }

    /** Acts that only pile up at first, then reads among them, and rows of undos at times. */
    private void step(int i) {
        int of = below(10);
        boolean manyUndos = style == 1 && i >= 380;
        if (manyUndos ? of < 7 : i % 64 > 58 && of < 5) {
            answer("undo", real.undo(), model.undo());
        } else if (i < 40 || of < 3 || manyUndos && of < 8) {
            change();
        } else if (of < 6) {
            readOf();
        } else {
            restOf();
        }
    }

    private boolean runAll(long run) {
        for (int i = 0; i < CALLS; i++) {
            step(i);
            told.add(call + " = " + due);
            if (got == due) {
                long wanted = model.trouble();
                got = real.trouble();
                due = wanted;
                if (got != due) {
                    told.add("trouble() = " + due);
                }
            }
            if (got != due) {
                System.out.println("seed " + run + ": answered " + got + ", due is the last of:");
                System.out.println(String.join("\n", told));
                return false;
            }
        }
        return true;
    }

    public static void main(String[] args) {
        long first = args.length > 0 ? Long.parseLong(args[0]) : 0;
        long runs = args.length > 1 ? Long.parseLong(args[1]) : 600;
        for (long run = first; run < first + runs; run++) {
            if (!new ModelTest(run).runAll(run)) {
                System.exit(1);
            }
        }
        System.out.println(runs + " runs answered as the model does");
    }
}
