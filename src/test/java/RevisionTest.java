/** Promises 8 to 11 and 22: revisions, revision, knows, body and agree. */
public final class RevisionTest {
    public static void main(String[] args) {
        revisionsCountsWhatWasMade();
        revisionTellsEachPart();
        knows();
        body();
        agree();
        Checks.end();
    }

    /** Revisions 0, 1 and 3 of document 6: a chain that ends with a mark; 2 is of document 3. */
    private static DocumentStores four() {
        DocumentStores s = new DocumentStores();
        s.edit(1, 6, 40);
        s.edit(1, 6, 41);
        s.edit(2, 3, Checks.MAX);
        s.delete(1, 6, 0);
        return s;
    }

    private static void revisionsCountsWhatWasMade() {
        Checks.part("promise 8");
        DocumentStores s = four();
        Checks.due("revisions()", s.revisions(), 4);
        s.copy(1, 0);
        s.edit(0, 3, Checks.MAX);
        s.purge(1, 6);
        s.compact(0);
        Checks.due("revisions()", s.revisions(), 4);
        s.edit(1, 6, 1);
        Checks.due("revisions()", s.revisions(), 5);
    }

    private static void revisionTellsEachPart() {
        Checks.part("promise 9, parts");
        DocumentStores s = four();
        int[][] want = {
            {6, Checks.NONE, 1, 0},
            {6, 0, 2, 0},
            {3, Checks.NONE, 1, 0},
            {6, 1, 3, 1},
        };
        for (int r = 0; r < 4; r++) {
            for (int what = 0; what < 4; what++) {
                Checks.due("revision(" + r + ", " + what + ")", s.revision(r, what), want[r][what]);
            }
        }
    }

    private static void knows() {
        Checks.part("promise 10");
        DocumentStores s = four();
        boolean[][] want = {
            {false, false, false, false},
            {true, true, false, true},
            {false, false, true, false},
        };
        for (int n = 0; n < 3; n++) {
            for (int r = 0; r < 4; r++) {
                Checks.due("knows(" + n + ", " + r + ")", s.knows(n, r), want[n][r]);
            }
        }
    }

    private static void body() {
        Checks.part("promise 11");
        DocumentStores s = four();
        Checks.due("body(1, 0)", s.body(1, 0), 40);
        Checks.due("body(1, 1)", s.body(1, 1), 41);
        Checks.due("body(1, 3)", s.body(1, 3), 0);
        Checks.due("body(2, 2)", s.body(2, 2), Checks.MAX);
        Checks.due("body(1, 2)", s.body(1, 2), Checks.NONE);
        Checks.due("body(0, 0)", s.body(0, 0), Checks.NONE);
        s.compact(1);
        Checks.due("body(1, 0)", s.body(1, 0), Checks.GONE);
        Checks.due("body(1, 3)", s.body(1, 3), 0);
        s.purge(1, 6);
        Checks.due("body(1, 0)", s.body(1, 0), Checks.NONE);
    }

    private static void agree() {
        Checks.part("promise 22");
        DocumentStores s = four();
        Checks.due("agree(1, 1)", s.agree(1, 1), true);
        Checks.due("agree(0, 1)", s.agree(0, 1), false);
        s.copy(1, 0);
        Checks.due("agree(0, 1) with other bodies and stamps", s.agree(0, 1), true);
        Checks.due("agree(1, 0)", s.agree(1, 0), true);
        s.edit(0, 0, 1);
        Checks.due("agree(0, 1) when 0 knows more", s.agree(0, 1), false);
        Checks.due("agree(1, 0) when 0 knows more", s.agree(1, 0), false);
        s.edit(1, 0, 2);
        Checks.due("agree(0, 1) when each knows one more", s.agree(0, 1), false);
        s.purge(0, 0);
        s.purge(1, 0);
        Checks.due("agree(0, 1) after the purges", s.agree(0, 1), true);
    }
}
