/** Promises 12 to 17: winner, leaves, leaf, conflicts, count and stamp. */
public final class LeavesTest {
    public static void main(String[] args) {
        generationGoesFirst();
        pathsAreComparedFromTheRoot();
        valuesAreComparedAsInts();
        aMarkComesAfterTheSameValue();
        marksLoseUnlessAlone();
        documentsAreApart();
        conflicts();
        countAndStamp();
        Checks.end();
    }

    private static void generationGoesFirst() {
        Checks.part("promises 12 to 14, generations");
        DocumentStores s = new DocumentStores();
        s.edit(0, 0, 9);
        s.edit(1, 0, 1);
        s.edit(1, 0, -5);
        s.copy(1, 0);
        Checks.due("winner(0, 0)", s.winner(0, 0), 2);
        Checks.due("leaves(0, 0)", s.leaves(0, 0), 2);
        Checks.due("leaves of 0", Checks.leavesOf(s, 0, 0), "2 0");
        Checks.due("winner(1, 0)", s.winner(1, 0), 2);
        Checks.due("leaves(1, 0)", s.leaves(1, 0), 1);
    }

    private static void pathsAreComparedFromTheRoot() {
        Checks.part("promises 12 to 14, paths");
        DocumentStores s = new DocumentStores();
        s.edit(0, 0, 5);
        s.edit(0, 0, 0);
        s.edit(0, 0, 0);
        s.edit(1, 0, 4);
        s.edit(1, 0, 9);
        s.edit(1, 0, 9);
        s.edit(2, 0, 5);
        s.edit(2, 0, 1);
        s.edit(2, 0, -1);
        s.copy(1, 0);
        s.copy(2, 0);
        Checks.due("leaves of 0", Checks.leavesOf(s, 0, 0), "7 2 5");
        Checks.due("winner(0, 0)", s.winner(0, 0), 7);
    }

    private static void valuesAreComparedAsInts() {
        Checks.part("promises 12 to 14, values");
        DocumentStores s = new DocumentStores();
        int[] xs = {Checks.MIN, 0, Checks.MAX, -1, 1};
        for (int x : xs) {
            s.edit(1, 0, x);
            s.copy(1, 0);
            s.purge(1, 0);
        }
        Checks.due("leaves(0, 0)", s.leaves(0, 0), 5);
        Checks.due("leaves of 0", Checks.leavesOf(s, 0, 0), "2 4 1 3 0");
        Checks.due("winner(0, 0)", s.winner(0, 0), 2);
    }

    private static void aMarkComesAfterTheSameValue() {
        Checks.part("promises 12 to 14, a mark beside the value 0");
        DocumentStores s = new DocumentStores();
        s.edit(0, 0, 5);
        s.edit(1, 0, 5);
        s.edit(2, 0, 5);
        s.delete(0, 0, 0);
        s.edit(1, 0, 0);
        s.edit(2, 0, 1);
        s.copy(1, 0);
        s.copy(2, 0);
        Checks.due("leaves of 0", Checks.leavesOf(s, 0, 0), "3 1 2");
        Checks.due("winner(0, 0)", s.winner(0, 0), 3);
        // Below a mark and below the value 0 the paths differ by the 1 and the 0 alone.
        DocumentStores t = new DocumentStores();
        t.edit(0, 0, 5);
        t.edit(1, 0, 5);
        t.edit(0, 0, 0);
        t.edit(0, 0, 9);
        t.delete(1, 0, 0);
        t.edit(1, 0, -9);
        t.copy(0, 1);
        Checks.due("leaves of 0", Checks.leavesOf(t, 1, 0), "4 2");
        Checks.due("winner(1, 0)", t.winner(1, 0), 4);
    }

    private static void marksLoseUnlessAlone() {
        Checks.part("promise 12, marks");
        DocumentStores s = new DocumentStores();
        s.edit(0, 0, 9);
        s.edit(0, 0, 9);
        s.delete(0, 0, 0);
        Checks.due("winner(0, 0), a mark alone", s.winner(0, 0), 2);
        s.edit(1, 0, 1);
        s.copy(1, 0);
        Checks.due("winner(0, 0), of the first generation", s.winner(0, 0), 3);
        Checks.due("leaves of 0", Checks.leavesOf(s, 0, 0), "2 3");
        s.delete(0, 0, 1);
        Checks.due("winner(0, 0), of two marks", s.winner(0, 0), 2);
        Checks.due("leaves of 0", Checks.leavesOf(s, 0, 0), "2 4");
    }

    private static void documentsAreApart() {
        Checks.part("promises 12 to 14, several documents");
        DocumentStores s = new DocumentStores();
        s.edit(0, 0, 1);
        s.edit(0, 7, 2);
        s.edit(0, 0, 3);
        Checks.due("winner(0, 0)", s.winner(0, 0), 2);
        Checks.due("winner(0, 7)", s.winner(0, 7), 1);
        Checks.due("winner(0, 1)", s.winner(0, 1), Checks.NONE);
        Checks.due("winner(1, 0)", s.winner(1, 0), Checks.NONE);
        Checks.due("leaves(0, 7)", s.leaves(0, 7), 1);
        Checks.due("leaves(0, 1)", s.leaves(0, 1), 0);
        Checks.due("leaf(0, 7, 0)", s.leaf(0, 7, 0), 1);
    }

    private static void conflicts() {
        Checks.part("promise 15");
        DocumentStores s = new DocumentStores();
        for (int d = 0; d < 8; d++) {
            s.edit(0, d, 1);
            s.edit(1, d, 2);
        }
        Checks.due("conflicts(0)", s.conflicts(0), 0);
        s.copy(1, 0);
        Checks.due("conflicts(0)", s.conflicts(0), 8);
        Checks.due("conflicts(1)", s.conflicts(1), 0);
        s.delete(0, 3, 0);
        Checks.due("conflicts(0), one leaf and a mark", s.conflicts(0), 7);
        s.edit(2, 3, 5);
        s.copy(2, 0);
        Checks.due("conflicts(0), two leaves and a mark", s.conflicts(0), 8);
        s.delete(0, 4, 0);
        s.delete(0, 4, 1);
        Checks.due("conflicts(0), two marks", s.conflicts(0), 7);
        s.edit(2, 5, 5);
        s.copy(2, 0);
        Checks.due("conflicts(0), three leaves", s.conflicts(0), 7);
        s.purge(0, 5);
        Checks.due("conflicts(0)", s.conflicts(0), 6);
        s.edit(0, 0, 7);
        Checks.due("conflicts(0), an edit ends none", s.conflicts(0), 6);
    }

    private static void countAndStamp() {
        Checks.part("promises 16 and 17");
        DocumentStores s = new DocumentStores();
        s.edit(0, 3, 1);
        s.edit(0, 5, 1);
        s.editLeaf(0, 3, 0, 1);
        s.delete(0, 5, 0);
        Checks.due("count(0)", s.count(0), 4);
        Checks.due("stamp(0, 3)", s.stamp(0, 3), 3);
        Checks.due("stamp(0, 5)", s.stamp(0, 5), 4);
        Checks.due("stamp(0, 4)", s.stamp(0, 4), 0);
        Checks.due("stamp(1, 3)", s.stamp(1, 3), 0);
        s.compact(0);
        s.copy(0, 1);
        Checks.due("count(0)", s.count(0), 4);
        Checks.due("count(1), one a document", s.count(1), 2);
        Checks.due("stamp(1, 3)", s.stamp(1, 3), 1);
        Checks.due("stamp(1, 5)", s.stamp(1, 5), 2);
        s.copy(0, 1);
        s.delete(0, 5, 0);
        Checks.due("count(1), nothing new", s.count(1), 2);
        Checks.due("count(0), a refused call", s.count(0), 4);
        s.purge(0, 3);
        Checks.due("stamp(0, 3)", s.stamp(0, 3), 0);
        Checks.due("count(0), a purge", s.count(0), 4);
        s.copy(1, 0);
        Checks.due("stamp(0, 3)", s.stamp(0, 3), 5);
        Checks.due("stamp(0, 5)", s.stamp(0, 5), 4);
        Checks.due("count(0)", s.count(0), 5);
        Checks.due("count(2)", s.count(2), 0);
    }
}
