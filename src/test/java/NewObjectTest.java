/** Promise 1 and the constants. */
public final class NewObjectTest {
    public static void main(String[] args) {
        constants();
        storesKnowNothing();
        objectsShareNothing();
        Checks.end();
    }

    private static void constants() {
        Checks.part("the constants");
        Checks.due("BAD_ARG", DocumentStores.BAD_ARG, -1000000001L);
        Checks.due("FULL", DocumentStores.FULL, -1000000002L);
        Checks.due("NONE", DocumentStores.NONE, -1000000003L);
        Checks.due("GONE", DocumentStores.GONE, -1000000004L);
    }

    private static void storesKnowNothing() {
        Checks.part("promise 1");
        DocumentStores s = new DocumentStores();
        Checks.due("revisions()", s.revisions(), 0);
        for (int what = 0; what < 4; what++) {
            Checks.due("revision(0, " + what + ")", s.revision(0, what), Checks.NONE);
        }
        for (int n = 0; n < 3; n++) {
            Checks.due("knows(" + n + ", 0)", s.knows(n, 0), false);
            Checks.due("body(" + n + ", 0)", s.body(n, 0), Checks.NONE);
            Checks.due("count(" + n + ")", s.count(n), 0);
            Checks.due("conflicts(" + n + ")", s.conflicts(n), 0);
            Checks.due("size(" + n + ")", s.size(n), 0);
            Checks.due("viewed(" + n + ", 0)", s.viewed(n, 0), Checks.NONE);
            Checks.due("below(" + n + ", MAX)", s.below(n, Checks.MAX), 0);
            Checks.due("total(" + n + ")", s.total(n), 0);
            Checks.due("compact(" + n + ")", s.compact(n), 0);
            Checks.due("copy(" + n + ", next)", s.copy(n, (n + 1) % 3), 0);
            Checks.due("agree(" + n + ", next)", s.agree(n, (n + 1) % 3), true);
            for (int d = 0; d < 8; d++) {
                String of = "(" + n + ", " + d + ")";
                Checks.due("winner" + of, s.winner(n, d), Checks.NONE);
                Checks.due("leaves" + of, s.leaves(n, d), 0);
                Checks.due("leaf" + of + " 0", s.leaf(n, d, 0), Checks.NONE);
                Checks.due("stamp" + of, s.stamp(n, d), 0);
                Checks.due("purge" + of, s.purge(n, d), Checks.NONE);
                Checks.due("editLeaf" + of + " 0", s.editLeaf(n, d, 0, 1), Checks.NONE);
                Checks.due("delete" + of + " 0", s.delete(n, d, 0), Checks.NONE);
            }
        }
        Checks.due("revisions()", s.revisions(), 0);
    }

    private static void objectsShareNothing() {
        Checks.part("promise 1, a second object");
        DocumentStores first = new DocumentStores();
        first.edit(0, 0, 5);
        DocumentStores second = new DocumentStores();
        Checks.due("revisions()", second.revisions(), 0);
        Checks.due("winner(0, 0)", second.winner(0, 0), Checks.NONE);
        Checks.due("edit(1, 3, 9)", second.edit(1, 3, 9), 0);
        Checks.due("the first one's revision(0, 0)", first.revision(0, 0), 0);
    }
}
