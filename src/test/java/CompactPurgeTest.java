/** Promises 6 and 7: compact and purge. */
public final class CompactPurgeTest {
    public static void main(String[] args) {
        compactKeepsLeaves();
        compactCountsOnlyBodies();
        compactChangesNothingElse();
        purgeForgets();
        purgeKeepsTheCount();
        Checks.end();
    }

    private static void compactKeepsLeaves() {
        Checks.part("promise 6, leaves");
        DocumentStores s = new DocumentStores();
        s.edit(0, 0, 1);
        s.edit(0, 0, 2);
        s.edit(0, 1, 3);
        s.delete(0, 1, 0);
        s.edit(0, 2, 4);
        s.edit(1, 2, 9);
        s.copy(1, 0);
        Checks.due("compact(0)", s.compact(0), 2);
        Checks.due("body(0, 0)", s.body(0, 0), Checks.GONE);
        Checks.due("body(0, 1)", s.body(0, 1), 2);
        Checks.due("body(0, 2)", s.body(0, 2), Checks.GONE);
        Checks.due("body(0, 3), a mark", s.body(0, 3), 0);
        Checks.due("body(0, 4), a leaf that loses", s.body(0, 4), 4);
        Checks.due("body(0, 5)", s.body(0, 5), 9);
    }

    private static void compactCountsOnlyBodies() {
        Checks.part("promise 6, the answer");
        DocumentStores s = new DocumentStores();
        s.edit(0, 0, 1);
        s.edit(0, 0, 2);
        s.edit(0, 0, 3);
        s.copy(0, 1);
        Checks.due("compact(1)", s.compact(1), 0);
        s.edit(1, 0, 4);
        Checks.due("compact(1)", s.compact(1), 1);
        Checks.due("compact(1)", s.compact(1), 0);
        Checks.due("compact(2)", s.compact(2), 0);
        Checks.due("body(0, 0)", s.body(0, 0), 1);
        Checks.due("compact(0)", s.compact(0), 2);
    }

    private static void compactChangesNothingElse() {
        Checks.part("promise 6, the rest");
        DocumentStores s = new DocumentStores();
        s.edit(0, 0, 1);
        s.edit(0, 0, 2);
        s.compact(0);
        Checks.due("knows(0, 0)", s.knows(0, 0), true);
        Checks.due("count(0)", s.count(0), 2);
        Checks.due("stamp(0, 0)", s.stamp(0, 0), 2);
        Checks.due("winner(0, 0)", s.winner(0, 0), 1);
        Checks.due("revision(1, 1)", s.revision(1, 1), 0);
        Checks.due("purge(0, 0)", s.purge(0, 0), 2);
    }

    private static void purgeForgets() {
        Checks.part("promise 7, forgetting");
        DocumentStores s = new DocumentStores();
        s.edit(0, 0, 1);
        s.edit(0, 0, 2);
        s.edit(0, 1, 3);
        s.copy(0, 1);
        s.edit(1, 0, 4);
        Checks.due("purge(0, 0)", s.purge(0, 0), 2);
        Checks.due("knows(0, 0)", s.knows(0, 0), false);
        Checks.due("knows(0, 1)", s.knows(0, 1), false);
        Checks.due("knows(0, 2)", s.knows(0, 2), true);
        Checks.due("body(0, 1)", s.body(0, 1), Checks.NONE);
        Checks.due("winner(0, 0)", s.winner(0, 0), Checks.NONE);
        Checks.due("leaves(0, 0)", s.leaves(0, 0), 0);
        Checks.due("view", Checks.viewOf(s, 0), "1");
        Checks.due("knows(1, 0)", s.knows(1, 0), true);
        Checks.due("revisions()", s.revisions(), 4);
        Checks.due("revision(1, 1)", s.revision(1, 1), 0);
        Checks.due("compact(0)", s.compact(0), 0);
        Checks.due("purge(1, 0)", s.purge(1, 0), 3);
    }

    private static void purgeKeepsTheCount() {
        Checks.part("promise 7, stamps");
        DocumentStores s = new DocumentStores();
        s.edit(0, 0, 1);
        s.edit(0, 1, 1);
        s.purge(0, 1);
        Checks.due("stamp(0, 1)", s.stamp(0, 1), 0);
        Checks.due("stamp(0, 0)", s.stamp(0, 0), 1);
        Checks.due("count(0)", s.count(0), 2);
        s.edit(0, 1, 1);
        Checks.due("stamp(0, 1)", s.stamp(0, 1), 3);
    }
}
