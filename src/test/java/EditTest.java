/** Promises 2, 3 and 4: edit, editLeaf and delete. */
public final class EditTest {
    public static void main(String[] args) {
        editMakesChains();
        editMakesTheSameRevisionOnce();
        editGoesOnFromAMark();
        editFollowsTheWinner();
        editAgainAfterPurge();
        editLeafPicksTheParent();
        deleteMakesMarks();
        deleteIsNotAnEditToZero();
        Checks.end();
    }

    private static void editMakesChains() {
        Checks.part("promise 2, chains");
        DocumentStores s = new DocumentStores();
        Checks.due("edit(0, 4, 5)", s.edit(0, 4, 5), 0);
        Checks.due("edit(0, 4, 5)", s.edit(0, 4, 5), 1);
        Checks.due("edit(0, 7, MIN)", s.edit(0, 7, Checks.MIN), 2);
        Checks.due("revision(0, 1)", s.revision(0, 1), Checks.NONE);
        Checks.due("revision(1, 1)", s.revision(1, 1), 0);
        Checks.due("revision(2, 1)", s.revision(2, 1), Checks.NONE);
        Checks.due("body(0, 0)", s.body(0, 0), 5);
        Checks.due("body(0, 1)", s.body(0, 1), 5);
        Checks.due("body(0, 2)", s.body(0, 2), Checks.MIN);
        Checks.due("knows(1, 0)", s.knows(1, 0), false);
        Checks.due("count(0)", s.count(0), 3);
        Checks.due("count(1)", s.count(1), 0);
    }

    private static void editMakesTheSameRevisionOnce() {
        Checks.part("promise 2, the same revision in several stores");
        DocumentStores s = new DocumentStores();
        Checks.due("edit(0, 1, 5)", s.edit(0, 1, 5), 0);
        Checks.due("edit(1, 1, 5)", s.edit(1, 1, 5), 0);
        Checks.due("edit(1, 2, 5)", s.edit(1, 2, 5), 1);
        Checks.due("edit(2, 1, 6)", s.edit(2, 1, 6), 2);
        Checks.due("edit(0, 1, 6)", s.edit(0, 1, 6), 3);
        Checks.due("edit(1, 1, 6)", s.edit(1, 1, 6), 3);
        Checks.due("revisions()", s.revisions(), 4);
        Checks.due("body(1, 3)", s.body(1, 3), 6);
        Checks.due("stamp(1, 1)", s.stamp(1, 1), 3);
        Checks.due("count(0)", s.count(0), 2);
    }

    private static void editGoesOnFromAMark() {
        Checks.part("promise 2, after a mark");
        DocumentStores s = new DocumentStores();
        s.edit(0, 0, 5);
        s.delete(0, 0, 0);
        Checks.due("edit(0, 0, 5)", s.edit(0, 0, 5), 2);
        Checks.due("revision(2, 1)", s.revision(2, 1), 1);
        Checks.due("revision(2, 2)", s.revision(2, 2), 3);
        Checks.due("leaves(0, 0)", s.leaves(0, 0), 1);
    }

    private static void editFollowsTheWinner() {
        Checks.part("promise 2, the winner and not the last leaf");
        DocumentStores s = new DocumentStores();
        s.edit(0, 0, 1);
        s.edit(1, 0, 9);
        s.copy(1, 0);
        Checks.due("delete(0, 0, 0)", s.delete(0, 0, 0), 2);
        Checks.due("leaf(0, 0, 0)", s.leaf(0, 0, 0), 2);
        Checks.due("edit(0, 0, 4)", s.edit(0, 0, 4), 3);
        Checks.due("revision(3, 1)", s.revision(3, 1), 0);
    }

    private static void editAgainAfterPurge() {
        Checks.part("promise 2, after a purge");
        DocumentStores s = new DocumentStores();
        s.edit(0, 0, 1);
        s.edit(0, 0, 2);
        s.purge(0, 0);
        Checks.due("edit(0, 0, 1)", s.edit(0, 0, 1), 0);
        Checks.due("body(0, 0)", s.body(0, 0), 1);
        Checks.due("knows(0, 1)", s.knows(0, 1), false);
        Checks.due("edit(0, 0, 3)", s.edit(0, 0, 3), 2);
        Checks.due("stamp(0, 0)", s.stamp(0, 0), 4);
    }

    /** Store 0 knows 0 (value 1), 1 (value 5), 2 (value 3) of document 2, all first ones. */
    private static DocumentStores threeFirst() {
        DocumentStores s = new DocumentStores();
        s.edit(0, 2, 1);
        s.edit(1, 2, 5);
        s.edit(2, 2, 3);
        s.copy(1, 0);
        s.copy(2, 0);
        return s;
    }

    private static void editLeafPicksTheParent() {
        Checks.part("promise 3, the parent");
        DocumentStores s = threeFirst();
        Checks.due("leaves of 2", Checks.leavesOf(s, 0, 2), "1 2 0");
        Checks.due("editLeaf(0, 2, 1, -7)", s.editLeaf(0, 2, 1, -7), 3);
        Checks.due("revision(3, 1)", s.revision(3, 1), 2);
        Checks.due("body(0, 3)", s.body(0, 3), -7);
        Checks.due("leaves of 2", Checks.leavesOf(s, 0, 2), "3 1 0");
        Checks.due("editLeaf(0, 2, 2, 8)", s.editLeaf(0, 2, 2, 8), 4);
        Checks.due("revision(4, 1)", s.revision(4, 1), 0);
        Checks.due("editLeaf(2, 2, 0, -7)", s.editLeaf(2, 2, 0, -7), 3);
        Checks.due("revisions()", s.revisions(), 5);
        Checks.due("stamp(2, 2)", s.stamp(2, 2), 2);
        Checks.due("delete(0, 2, 0)", s.delete(0, 2, 0), 5);
        Checks.due("editLeaf(0, 2, 0, 1)", s.editLeaf(0, 2, 0, 1), 6);
        Checks.due("revision(6, 1)", s.revision(6, 1), 5);
    }

    private static void deleteMakesMarks() {
        Checks.part("promise 4, marks");
        DocumentStores s = threeFirst();
        Checks.due("delete(0, 2, 2)", s.delete(0, 2, 2), 3);
        Checks.due("revision(3, 1)", s.revision(3, 1), 0);
        Checks.due("revision(3, 3)", s.revision(3, 3), 1);
        Checks.due("body(0, 3)", s.body(0, 3), 0);
        Checks.due("stamp(0, 2)", s.stamp(0, 2), 4);
        Checks.due("leaves of 2", Checks.leavesOf(s, 0, 2), "3 1 2");
        Checks.due("winner(0, 2)", s.winner(0, 2), 1);
        s.purge(1, 2);
        s.edit(1, 2, 1);
        Checks.due("delete(1, 2, 0)", s.delete(1, 2, 0), 3);
        Checks.due("revisions()", s.revisions(), 4);
    }

    private static void deleteIsNotAnEditToZero() {
        Checks.part("promise 4, a mark is no revision with value 0");
        DocumentStores s = new DocumentStores();
        s.edit(0, 0, 5);
        s.edit(1, 0, 5);
        Checks.due("edit(0, 0, 0)", s.edit(0, 0, 0), 1);
        Checks.due("delete(1, 0, 0)", s.delete(1, 0, 0), 2);
        Checks.due("revision(1, 3)", s.revision(1, 3), 0);
        Checks.due("revision(2, 3)", s.revision(2, 3), 1);
    }
}
