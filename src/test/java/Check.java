/** Counts the answers that are not the ones due, and prints each under the sentence that it breaks. */
final class Check {
    private static final int PRINTED_AT_MOST = 50;

    private static String current = "";
    private static int sentences = 0;
    private static int asked = 0;
    private static int wrong = 0;

    private Check() {
    }

    /** The test of one sentence of the document; one that asks nothing would hold anything, so it is a fault. */
    static void sentence(String words, Runnable test) {
        int before = asked;
        current = "\"" + words + "\": ";
        sentences++;
        test.run();
        holds("something was asked", asked > before);
        current = "";
    }

    static void due(String call, long got, long want) {
        asked++;
        if (got != want) {
            fault(call + " answered " + got + ", due is " + want);
        }
    }

    static void due(String call, boolean got, boolean want) {
        asked++;
        if (got != want) {
            fault(call + " answered " + got + ", due is " + want);
        }
    }

    static void holds(String claim, boolean holds) {
        asked++;
        if (!holds) {
            fault(claim + " does not hold");
        }
    }

    /** Everything that can be read from the unit is as it was in the snapshot. */
    static void unchanged(String call, long[] before, SrtDivider unit) {
        long[] after = Snapshot.of(unit);
        asked += before.length;
        for (int i = 0; i < before.length; i++) {
            if (after[i] != before[i]) {
                fault("after " + call + ": " + Snapshot.nameOf(i) + " answered " + after[i] + ", due is " + before[i]);
            }
        }
    }

    private static void fault(String text) {
        wrong++;
        if (wrong <= PRINTED_AT_MOST) {
            System.out.println(current + text);
        }
    }

    static void end() {
        if (wrong != 0) {
            System.out.println(wrong + " of " + asked + " answers are not as due");
            System.exit(1);
        }
        System.out.println((sentences > 0 ? sentences + " sentences hold, " : "") + asked + " answers are as due");
    }
}
