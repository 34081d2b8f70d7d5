/** Promise 5: copy. ChangeEdgesTest has promise 23. */
public final class CopyTest {
    public static void main(String[] args) {
        copiesAllRevisions();
        copiesOnlyBodiesOfLeaves();
        keepsBodiesThatItHas();
        givesBackTheBodyOfALeaf();
        takesDocumentsByTheirStamps();
        countsDocumentsWithNews();
        bringsBackWhatWasPurged();
        Checks.end();
    }

    private static void copiesAllRevisions() {
        Checks.part("promise 5, revisions");
        DocumentStores s = new DocumentStores();
        s.edit(0, 0, 1);
        s.edit(0, 0, 2);
        s.edit(1, 0, 7);
        Checks.due("copy(0, 1)", s.copy(0, 1), 1);
        Checks.due("knows(1, 0)", s.knows(1, 0), true);
        Checks.due("knows(1, 1)", s.knows(1, 1), true);
        Checks.due("knows(1, 2)", s.knows(1, 2), true);
        Checks.due("knows(0, 2)", s.knows(0, 2), false);
        Checks.due("knows(2, 1)", s.knows(2, 1), false);
        Checks.due("leaves of 0", Checks.leavesOf(s, 1, 0), "1 2");
        Checks.due("copy(0, 1)", s.copy(0, 1), 0);
        Checks.due("stamp(1, 0)", s.stamp(1, 0), 2);
        Checks.due("stamp(0, 0)", s.stamp(0, 0), 2);
        Checks.due("revisions()", s.revisions(), 3);
    }

    private static void copiesOnlyBodiesOfLeaves() {
        Checks.part("promise 5, bodies");
        DocumentStores s = new DocumentStores();
        s.edit(0, 0, 1);
        s.edit(0, 0, 2);
        s.edit(0, 1, 3);
        s.delete(0, 1, 0);
        s.copy(0, 1);
        Checks.due("body(1, 0)", s.body(1, 0), Checks.GONE);
        Checks.due("body(1, 1)", s.body(1, 1), 2);
        Checks.due("body(1, 2)", s.body(1, 2), Checks.GONE);
        Checks.due("body(1, 3)", s.body(1, 3), 0);
        Checks.due("body(0, 0)", s.body(0, 0), 1);
    }

    private static void keepsBodiesThatItHas() {
        Checks.part("promise 5, bodies that were there");
        DocumentStores s = new DocumentStores();
        s.edit(0, 0, 1);
        s.copy(0, 1);
        s.edit(1, 0, 2);
        s.compact(1);
        Checks.due("copy(1, 0)", s.copy(1, 0), 1);
        Checks.due("body(0, 0)", s.body(0, 0), 1);
        Checks.due("body(0, 1)", s.body(0, 1), 2);
        Checks.due("body(1, 0)", s.body(1, 0), Checks.GONE);
    }

    /** Revision 0 is a leaf in store 0 and known without its body in store 1. */
    private static void givesBackTheBodyOfALeaf() {
        Checks.part("promise 5, the body of a leaf that was known");
        DocumentStores s = new DocumentStores();
        s.edit(0, 0, 1);
        s.copy(0, 1);
        s.edit(1, 0, 2);
        s.compact(1);
        Checks.due("copy(0, 1)", s.copy(0, 1), 0);
        Checks.due("body(1, 0) without news", s.body(1, 0), Checks.GONE);
        s.edit(2, 0, 9);
        s.copy(2, 0);
        Checks.due("copy(0, 1)", s.copy(0, 1), 1);
        Checks.due("body(1, 0) with news", s.body(1, 0), 1);
        Checks.due("body(1, 2)", s.body(1, 2), 9);
        Checks.due("compact(1)", s.compact(1), 1);
    }

    private static void takesDocumentsByTheirStamps() {
        Checks.part("promise 5, the order");
        DocumentStores s = new DocumentStores();
        s.edit(0, 5, 1);
        s.edit(0, 2, 1);
        s.edit(0, 7, 1);
        s.edit(0, 0, 1);
        s.edit(0, 5, 2);
        Checks.due("copy(0, 1)", s.copy(0, 1), 4);
        Checks.due("stamp(1, 2)", s.stamp(1, 2), 1);
        Checks.due("stamp(1, 7)", s.stamp(1, 7), 2);
        Checks.due("stamp(1, 0)", s.stamp(1, 0), 3);
        Checks.due("stamp(1, 5)", s.stamp(1, 5), 4);
        Checks.due("count(1)", s.count(1), 4);
        Checks.due("count(0)", s.count(0), 5);
        for (int d = 0; d < 8; d++) {
            s.edit(2, 7 - d, 3);
        }
        Checks.due("copy(2, 1)", s.copy(2, 1), 8);
        Checks.due("stamp(1, 7)", s.stamp(1, 7), 5);
        Checks.due("stamp(1, 0)", s.stamp(1, 0), 12);
    }

    private static void countsDocumentsWithNews() {
        Checks.part("promise 5, the answer");
        DocumentStores s = new DocumentStores();
        s.edit(0, 0, 1);
        s.edit(1, 0, 1);
        s.edit(0, 1, 1);
        s.edit(1, 2, 1);
        Checks.due("copy(0, 1)", s.copy(0, 1), 1);
        Checks.due("stamp(1, 0)", s.stamp(1, 0), 1);
        Checks.due("stamp(1, 1)", s.stamp(1, 1), 3);
        Checks.due("stamp(1, 2)", s.stamp(1, 2), 2);
        Checks.due("copy(1, 0)", s.copy(1, 0), 1);
        Checks.due("agree(0, 1)", s.agree(0, 1), true);
        Checks.due("copy(2, 0)", s.copy(2, 0), 0);
        Checks.due("count(0)", s.count(0), 3);
    }

    private static void bringsBackWhatWasPurged() {
        Checks.part("promise 5, after a purge");
        DocumentStores s = new DocumentStores();
        s.edit(0, 3, 1);
        s.edit(0, 3, 2);
        s.copy(0, 1);
        s.edit(0, 4, 1);
        s.purge(0, 3);
        Checks.due("copy(0, 1)", s.copy(0, 1), 1);
        Checks.due("knows(1, 1)", s.knows(1, 1), true);
        Checks.due("copy(1, 0)", s.copy(1, 0), 1);
        Checks.due("stamp(0, 3)", s.stamp(0, 3), 4);
        Checks.due("body(0, 0)", s.body(0, 0), Checks.GONE);
        Checks.due("body(0, 1)", s.body(0, 1), 2);
    }
}
