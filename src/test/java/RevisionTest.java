/** Promises 8 to 11 and 22: revisions, revision, knows, body and agree. */
public final class RevisionTest {
    private static final int[] NO_REVISIONS = {-1, 4, 79, 80, Checks.MIN, Checks.MAX};

    public static void main(String[] args) {
        revisionsCountsWhatWasMade();
        revisionTellsEachPart();
        revisionRefusals();
        knows();
        body();
        agree();
        Checks.end();
    }

    /** Revisions 0, 1 and 3 of document 6: a chain that ends with a mark; 2 is of document 3. */
    private static DocumentStores four() {
        DocumentStores s = new DocumentStores();
        s.edit(1, 6, 40);
        s.edit(1, 6, 41);
        s.edit(2, 3, Checks.MAX);
        s.delete(1, 6, 0);
        return s;
    }

    private static void revisionsCountsWhatWasMade() {
        Checks.part("promise 8");
        DocumentStores s = four();
        Checks.due("revisions()", s.revisions(), 4);
        s.copy(1, 0);
        s.edit(0, 3, Checks.MAX);
        s.purge(1, 6);
        s.compact(0);
        Checks.due("revisions()", s.revisions(), 4);
        s.edit(1, 6, 1);
        Checks.due("revisions()", s.revisions(), 5);
        Checks.due("revisions() when full", Checks.full().revisions(), 80);
    }

    private static void revisionTellsEachPart() {
        Checks.part("promise 9, parts");
        DocumentStores s = four();
        int[][] want = {
            {6, Checks.NONE, 1, 0},
            {6, 0, 2, 0},
            {3, Checks.NONE, 1, 0},
            {6, 1, 3, 1},
        };
        for (int r = 0; r < 4; r++) {
            for (int what = 0; what < 4; what++) {
                Checks.due("revision(" + r + ", " + what + ")", s.revision(r, what), want[r][what]);
            }
        }
        s.purge(1, 6);
        Checks.due("revision(3, 1) known nowhere", s.revision(3, 1), 1);
        DocumentStores f = Checks.full();
        Checks.due("revision(79, 2)", f.revision(79, 2), 80);
        Checks.due("revision(79, 1)", f.revision(79, 1), 78);
        Checks.due("revision(80, 2)", f.revision(80, 2), Checks.NONE);
    }

    private static void revisionRefusals() {
        Checks.part("promise 9, BAD_ARG, then NONE");
        DocumentStores s = four();
        for (int what : new int[] {-1, 4, Checks.MIN, Checks.MAX}) {
            Checks.due("revision(0, " + what + ")", s.revision(0, what), Checks.BAD_ARG);
            Checks.due("revision(-1, " + what + ")", s.revision(-1, what), Checks.BAD_ARG);
            Checks.due("revision(4, " + what + ")", s.revision(4, what), Checks.BAD_ARG);
        }
        for (int r : NO_REVISIONS) {
            for (int what = 0; what < 4; what++) {
                Checks.due("revision(" + r + ", " + what + ")", s.revision(r, what), Checks.NONE);
            }
        }
    }

    private static void knows() {
        Checks.part("promise 10");
        DocumentStores s = four();
        boolean[][] want = {
            {false, false, false, false},
            {true, true, false, true},
            {false, false, true, false},
        };
        for (int n = 0; n < 3; n++) {
            for (int r = 0; r < 4; r++) {
                Checks.due("knows(" + n + ", " + r + ")", s.knows(n, r), want[n][r]);
            }
            for (int r : NO_REVISIONS) {
                Checks.due("knows(" + n + ", " + r + ")", s.knows(n, r), false);
            }
        }
        for (int n : Checks.NO_STORES) {
            Checks.due("knows(" + n + ", 0)", s.knows(n, 0), false);
        }
        DocumentStores f = Checks.full();
        Checks.due("knows(0, 79)", f.knows(0, 79), true);
        Checks.due("knows(0, 80)", f.knows(0, 80), false);
        Checks.due("knows(1, -1)", f.knows(1, -1), false);
        Checks.due("knows(-1, 80)", f.knows(-1, 80), false);
    }

    private static void body() {
        Checks.part("promise 11");
        DocumentStores s = four();
        Checks.due("body(1, 0)", s.body(1, 0), 40);
        Checks.due("body(1, 1)", s.body(1, 1), 41);
        Checks.due("body(1, 3)", s.body(1, 3), 0);
        Checks.due("body(2, 2)", s.body(2, 2), Checks.MAX);
        Checks.due("body(1, 2)", s.body(1, 2), Checks.NONE);
        Checks.due("body(0, 0)", s.body(0, 0), Checks.NONE);
        s.compact(1);
        Checks.due("body(1, 0)", s.body(1, 0), Checks.GONE);
        Checks.due("body(1, 3)", s.body(1, 3), 0);
        s.purge(1, 6);
        Checks.due("body(1, 0)", s.body(1, 0), Checks.NONE);
        for (int r : NO_REVISIONS) {
            Checks.due("body(0, " + r + ")", s.body(0, r), Checks.NONE);
        }
        for (int n : Checks.NO_STORES) {
            Checks.due("body(" + n + ", 0)", s.body(n, 0), Checks.BAD_ARG);
            Checks.due("body(" + n + ", 80)", s.body(n, 80), Checks.BAD_ARG);
        }
    }

    private static void agree() {
        Checks.part("promise 22");
        DocumentStores s = four();
        Checks.due("agree(1, 1)", s.agree(1, 1), true);
        Checks.due("agree(0, 1)", s.agree(0, 1), false);
        s.copy(1, 0);
        Checks.due("agree(0, 1) with other bodies and stamps", s.agree(0, 1), true);
        Checks.due("agree(1, 0)", s.agree(1, 0), true);
        s.edit(0, 0, 1);
        Checks.due("agree(0, 1) when 0 knows more", s.agree(0, 1), false);
        Checks.due("agree(1, 0) when 0 knows more", s.agree(1, 0), false);
        s.edit(1, 0, 2);
        Checks.due("agree(0, 1) when each knows one more", s.agree(0, 1), false);
        s.purge(0, 0);
        s.purge(1, 0);
        Checks.due("agree(0, 1) after the purges", s.agree(0, 1), true);
        for (int n : Checks.NO_STORES) {
            Checks.due("agree(" + n + ", 0)", s.agree(n, 0), false);
            Checks.due("agree(0, " + n + ")", s.agree(0, n), false);
            Checks.due("agree(" + n + ", " + n + ")", s.agree(n, n), false);
        }
    }
}
