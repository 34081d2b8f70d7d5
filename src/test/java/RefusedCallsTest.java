/** Promise 23 and the terms: the order of the tests, refused calls change nothing, no call throws. */
public final class RefusedCallsTest {
    private static final int[] EDGES = {
        Checks.MIN, Checks.NONE, -1, 0, 1, 2, 3, 7, 8, 79, 80, 239, 240, Checks.MAX
    };

    public static void main(String[] args) {
        refusedCallsChangeNothing();
        refusedCallsChangeNothingWhenFull();
        questionsChangeNothing();
        noCallThrows();
        Checks.end();
    }

    /** Conflicts, marks, a compacted store and a purged document, with eight revisions. */
    private static DocumentStores some() {
        DocumentStores s = new DocumentStores();
        s.edit(0, 0, 5);
        s.edit(0, 0, 6);
        s.edit(1, 0, 7);
        s.copy(1, 0);
        s.delete(0, 0, 1);
        s.edit(2, 7, 1);
        s.copy(0, 2);
        s.edit(2, 0, -4);
        s.compact(2);
        s.edit(1, 3, 8);
        s.purge(1, 3);
        s.edit(1, 0, 9);
        return s;
    }

    private static void refusedCallsChangeNothing() {
        Checks.part("terms, refused calls");
        DocumentStores s = some();
        for (int n : Checks.NO_STORES) {
            Checks.due("edit", s.edit(n, 0, 1), Checks.BAD_ARG);
            Checks.due("editLeaf", s.editLeaf(n, 0, 0, 1), Checks.BAD_ARG);
            Checks.due("delete", s.delete(n, 0, 0), Checks.BAD_ARG);
            Checks.due("copy from", s.copy(n, 0), Checks.BAD_ARG);
            Checks.due("copy to", s.copy(0, n), Checks.BAD_ARG);
            Checks.due("compact", s.compact(n), Checks.BAD_ARG);
            Checks.due("purge", s.purge(n, 0), Checks.BAD_ARG);
        }
        for (int d : Checks.NO_DOCUMENTS) {
            Checks.due("edit", s.edit(0, d, 1), Checks.BAD_ARG);
            Checks.due("editLeaf", s.editLeaf(0, d, 0, 1), Checks.BAD_ARG);
            Checks.due("delete", s.delete(0, d, 0), Checks.BAD_ARG);
            Checks.due("purge", s.purge(0, d), Checks.BAD_ARG);
        }
        Checks.due("copy(1, 1)", s.copy(1, 1), Checks.BAD_ARG);
        Checks.due("editLeaf(0, 0, 2, 1)", s.editLeaf(0, 0, 2, 1), Checks.NONE);
        Checks.due("delete(0, 0, 0), a mark or not", s.delete(0, 0, s.leaves(0, 0)), Checks.NONE);
        Checks.due("purge(1, 3)", s.purge(1, 3), Checks.NONE);
        Checks.due("the state", Checks.stateOf(s), Checks.stateOf(some()));
    }

    private static void refusedCallsChangeNothingWhenFull() {
        Checks.part("terms, FULL");
        DocumentStores s = Checks.full();
        Checks.due("edit(0, 0, 1)", s.edit(0, 0, 1), Checks.FULL);
        Checks.due("editLeaf(0, 0, 0, 1)", s.editLeaf(0, 0, 0, 1), Checks.FULL);
        Checks.due("delete(0, 0, 0)", s.delete(0, 0, 0), Checks.FULL);
        Checks.due("edit(1, 5, 1)", s.edit(1, 5, 1), Checks.FULL);
        Checks.due("revisions()", s.revisions(), 80);
        Checks.due("count(0)", s.count(0), 80);
        Checks.due("stamp(0, 0)", s.stamp(0, 0), 80);
        Checks.due("count(1)", s.count(1), 0);
        Checks.due("stamp(1, 5)", s.stamp(1, 5), 0);
        Checks.due("winner(0, 0)", s.winner(0, 0), 79);
        Checks.due("winner(1, 5)", s.winner(1, 5), Checks.NONE);
        Checks.due("leaves(0, 0)", s.leaves(0, 0), 1);
        Checks.due("copy(0, 1)", s.copy(0, 1), 1);
        Checks.due("edit(1, 0, 1)", s.edit(1, 0, 1), Checks.FULL);
    }

    private static void questionsChangeNothing() {
        Checks.part("terms, questions");
        DocumentStores s = some();
        String before = Checks.stateOf(s);
        Checks.due("the state", before, Checks.stateOf(some()));
        Checks.due("the state asked twice", Checks.stateOf(s), before);
    }

    private static void noCallThrows() {
        Checks.part("terms, no call throws");
        for (int a : EDGES) {
            for (int b : EDGES) {
                DocumentStores[] states = {new DocumentStores(), some(), Checks.full()};
                for (DocumentStores s : states) {
                    Checks.due("a throw with " + a + ", " + b, throwsWith(s, a, b), "");
                }
            }
        }
    }

    private static String throwsWith(DocumentStores s, int a, int b) {
        try {
            for (int c : EDGES) {
                s.leaf(a, b, c);
                s.editLeaf(a, b, c, c);
                s.delete(a, b, c);
            }
            s.revisions();
            s.revision(a, b);
            s.knows(a, b);
            s.body(a, b);
            s.winner(a, b);
            s.leaves(a, b);
            s.conflicts(a);
            s.count(a);
            s.stamp(a, b);
            s.size(a);
            s.viewed(a, b);
            s.below(a, b);
            s.total(a);
            s.agree(a, b);
            s.edit(a, b, 1);
            s.copy(a, b);
            s.compact(a);
            s.purge(a, b);
            return "";
        } catch (Throwable thrown) {
            return thrown.toString();
        }
    }
}
