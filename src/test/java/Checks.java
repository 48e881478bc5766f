/** What the tests by hand share: answers that are due, refusals, benches made in one line. */
abstract class Checks {
    static final int LEAST = Integer.MIN_VALUE;
    static final int MOST = Integer.MAX_VALUE;

    private static int wrong = 0;
    private static int asked = 0;
    private static String sentence = "";

    /** Names the sentence of the document that the answers behind it are due to. */
    static void of(String told) {
        sentence = told;
    }

    static void due(String call, long got, long want) {
        asked++;
        if (got != want) {
            wrong++;
            System.out.println(sentence + ": " + call + " answered " + got + ", due is " + want);
        }
    }

    static void due(String call, boolean got, boolean want) {
        due(call, got ? 1 : 0, want ? 1 : 0);
    }

    static void due(String call, String got, String want) {
        asked++;
        if (!got.equals(want)) {
            wrong++;
            System.out.println(sentence + ": " + call + " told\n  " + got + "\n  due is\n  " + want);
        }
    }

    /** A call that must be refused, and the TROUBLE that tells why. */
    static void refused(StepMeters x, String call, long got, long want, int trouble) {
        due(call, got, want);
        due(call + " then trouble()", x.trouble(), trouble);
    }

    static void refused(StepMeters x, String call, boolean got, int trouble) {
        refused(x, call, got ? 1 : 0, 0, trouble);
    }

    /** A bench with one METER of a kind, its PARTS all with one BOUND. */
    static StepMeters bench(int range, int kind, int bound, int... sizes) {
        StepMeters x = new StepMeters();
        x.range(range);
        add(x, kind, bound, sizes);
        return x;
    }

    static int add(StepMeters x, int kind, int bound, int... sizes) {
        int m = x.meter(kind);
        for (int size : sizes) {
            x.part(m, size, bound);
        }
        return m;
    }

    /** All that a bench tells of its state and its answers, TROUBLE aside, in at most 250 calls. */
    static String told(StepMeters x) {
        StringBuilder all = new StringBuilder();
        for (int what = 0; what < 5; what++) {
            all.append(x.size(what)).append(' ');
        }
        for (int m = 0; m < x.size(1); m++) {
            all.append("| ").append(x.kind(m, 0)).append(" of ").append(x.kind(m, 1));
            for (int k = 0; k < Math.min(4, x.kind(m, 1)); k++) {
                all.append(k == 0 ? ": " : ", ");
                for (int what = 0; what < 4; what++) {
                    all.append(x.partOf(m, k, what)).append(' ');
                }
            }
            all.append("; ").append(x.spans(m)).append(' ').append(x.widest(m)).append(' ').append(x.lacks(m));
            all.append(' ').append(x.read(m, x.size(0))).append(' ').append(x.rest(m, 0));
            all.append(' ').append(x.mean(m, 0, false)).append('/').append(x.mean(m, 0, true)).append(' ');
        }
        for (int i = 0; i < x.size(3); i++) {
            all.append("| ").append(x.shown(i)).append(' ');
        }
        return all.append("| ").append(x.alike()).append(' ').append(x.shows()).toString();
    }

    /** Prints what was found, and ends with 1 if an answer was not the one that is due. */
    static void end() {
        System.out.println(asked + " answers asked, " + wrong + " not as due");
        if (wrong != 0) {
            System.exit(1);
        }
    }
}
