/** Compares answers with those that are due, prints the wrong ones and ends the test. */
final class Checks {
    static final int BAD_ARG = DocumentStores.BAD_ARG;
    static final int FULL = DocumentStores.FULL;
    static final int NONE = DocumentStores.NONE;
    static final int GONE = DocumentStores.GONE;
    static final int MIN = Integer.MIN_VALUE;
    static final int MAX = Integer.MAX_VALUE;

    private static int checked = 0;
    private static int wrong = 0;
    private static String part = "";

    private Checks() {
    }

    static void part(String name) {
        part = name;
    }

    static void due(String call, long got, long want) {
        report(call, got == want, Long.toString(got), Long.toString(want));
    }

    static void due(String call, boolean got, boolean want) {
        report(call, got == want, Boolean.toString(got), Boolean.toString(want));
    }

    static void due(String call, String got, String want) {
        report(call, got.equals(want), got, want);
    }

    /** For an answer that was compared already. */
    static void right() {
        checked++;
    }

    private static void report(String call, boolean right, String got, String want) {
        checked++;
        if (!right) {
            wrong++;
            System.out.println(part + ": " + call + " answered " + got + ", due is " + want);
        }
    }

    static void end() {
        System.out.println(checked + " answers checked, " + wrong + " wrong");
        if (wrong != 0 || checked == 0) {
            System.exit(1);
        }
    }

    /** The leaves of d in store n in their order, as a text. */
    static String leavesOf(DocumentStores s, int n, int d) {
        StringBuilder text = new StringBuilder();
        int number = s.leaves(n, d);
        for (int k = 0; k < number; k++) {
            text.append(k == 0 ? "" : " ").append(s.leaf(n, d, k));
        }
        return text.toString();
    }

    /** The view of store n in its order, as a text. */
    static String viewOf(DocumentStores s, int n) {
        StringBuilder text = new StringBuilder();
        int number = s.size(n);
        for (int k = 0; k < number; k++) {
            text.append(k == 0 ? "" : " ").append(s.viewed(n, k));
        }
        return text.toString();
    }
}
