/** Terms: 512 calls, 80 revisions, which revisions are the same, the ties, the count. */
public final class TermsTest {
    public static void main(String[] args) {
        the512thCallOfEdits();
        the512thCallOfPurges();
        the512thCallOfCopies();
        the80thRevisionAndTheOneBehindIt();
        eightyInAllStoresTogether();
        numbersGoByTheFirstMaking();
        theSameRevision();
        otherRevisions();
        marksAreTheSame();
        generations();
        aMarkHasTheValueZero();
        aLeafIsNoParentInItsStore();
        ofLeavesThatAreNoMarks();
        elseOfAllLeaves();
        theGreatestGeneration();
        numbersAreComparedAsInts();
        theFirstDifferenceDecides();
        theLastPlaceDecides();
        aMarkOnThePathDecides();
        aDocumentExistsWithAWinnerThatIsNoMark();
        theCountIsZeroAtFirst();
        oneStampForAFurtherRevision();
        oneStampForADocumentThatIsCopied();
        theSameValueByRisingNumber();
        Checks.end();
    }

    private static void the512thCallOfEdits() {
        Checks.part("at most 512 calls, edits");
        DocumentStores s = States.chain();
        for (int call = 81; call <= 511; call++) {
            Checks.due("edit, call " + call, s.edit(call % 3, call % 8, -1), Checks.FULL);
        }
        Checks.due("winner(0, 0), call 512", s.winner(0, 0), 79);
    }

    private static void the512thCallOfPurges() {
        Checks.part("at most 512 calls, purges");
        DocumentStores s = new DocumentStores();
        for (int i = 0; i < 255; i++) {
            Checks.due("edit, call " + (2 * i + 1), s.edit(2, 7, 5), 0);
            Checks.due("purge, call " + (2 * i + 2), s.purge(2, 7), 1);
        }
        Checks.due("edit, call 511", s.edit(2, 7, 5), 0);
        Checks.due("stamp(2, 7), call 512", s.stamp(2, 7), 256);
    }

    /** The count rises as far as it can: eight documents with nine calls. */
    private static void the512thCallOfCopies() {
        Checks.part("at most 512 calls, copies");
        DocumentStores s = new DocumentStores();
        int calls = 0;
        for (int d = 0; d < 8; d++) {
            s.edit(0, d, d);
            calls++;
        }
        int count = 0;
        while (calls + 9 <= 510) {
            Checks.due("copy", s.copy(0, 1), 8);
            for (int d = 0; d < 8; d++) {
                Checks.due("purge", s.purge(1, d), 1);
            }
            calls += 9;
            count += 8;
        }
        while (calls < 510) {
            Checks.due("compact", s.compact(1), 0);
            calls++;
        }
        Checks.due("edit, call 511", s.edit(1, 0, 9), 8);
        Checks.due("count(1), call 512", s.count(1), count + 1);
    }

    private static void the80thRevisionAndTheOneBehindIt() {
        Checks.part("at most 80 are made");
        DocumentStores s = new DocumentStores();
        for (int r = 0; r < 79; r++) {
            s.edit(0, 0, r);
        }
        Checks.due("revisions()", s.revisions(), 79);
        Checks.due("edit, the 80th", s.edit(2, 7, 6), 79);
        Checks.due("revisions()", s.revisions(), 80);
        Checks.due("edit, the one behind it", s.edit(2, 7, 6), Checks.FULL);
        Checks.due("revisions()", s.revisions(), 80);
        Checks.due("revision(79, 0)", s.revision(79, 0), 7);
        Checks.due("revision(80, 0)", s.revision(80, 0), Checks.NONE);
        Checks.due("winner(2, 7)", s.winner(2, 7), 79);
    }

    private static void eightyInAllStoresTogether() {
        Checks.part("at most 80 are made, in all stores together, purged ones too");
        Checks.due("revisions(), crowded", States.crowded().revisions(), 80);
        DocumentStores s = States.chain();
        Checks.due("purge(0, 0)", s.purge(0, 0), 80);
        Checks.due("edit(1, 1, 1)", s.edit(1, 1, 1), Checks.FULL);
        Checks.due("edit(0, 0, 1)", s.edit(0, 0, 1), Checks.FULL);
        Checks.due("edit(0, 0, 0), one made before", s.edit(0, 0, 0), 0);
        Checks.due("revisions()", s.revisions(), 80);
    }

    private static void numbersGoByTheFirstMaking() {
        Checks.part("numbered from 0 on, as first made in any store");
        DocumentStores s = new DocumentStores();
        Checks.due("edit(2, 6, 1)", s.edit(2, 6, 1), 0);
        Checks.due("edit(0, 1, 1)", s.edit(0, 1, 1), 1);
        Checks.due("edit(1, 6, 2)", s.edit(1, 6, 2), 2);
        Checks.due("edit(0, 6, 1), made before", s.edit(0, 6, 1), 0);
        Checks.due("delete(2, 6, 0)", s.delete(2, 6, 0), 3);
        s.purge(2, 6);
        s.purge(0, 6);
        Checks.due("edit(1, 0, 1)", s.edit(1, 0, 1), 4);
        Checks.due("edit(2, 6, 1), purged everywhere", s.edit(2, 6, 1), 0);
        Checks.due("delete(2, 6, 0), purged everywhere", s.delete(2, 6, 0), 3);
        Checks.due("edit(2, 0, 2)", s.edit(2, 0, 2), 5);
    }

    private static void theSameRevision() {
        Checks.part("the same parent and value are the same revision");
        DocumentStores s = new DocumentStores();
        for (int n = 0; n < 3; n++) {
            Checks.due("edit, both first", s.edit(n, 3, Checks.MIN), 0);
            Checks.due("edit, the same parent", s.edit(n, 3, 0), 1);
            Checks.due("editLeaf, the same parent", s.editLeaf(n, 3, 0, Checks.NONE), 2);
        }
        Checks.due("revisions()", s.revisions(), 3);
        Checks.due("agree(0, 2)", s.agree(0, 2), true);
    }

    private static void otherRevisions() {
        Checks.part("another document, parent, value or a mark is another revision");
        DocumentStores s = new DocumentStores();
        Checks.due("edit(0, 0, 0)", s.edit(0, 0, 0), 0);
        Checks.due("edit(1, 1, 0), another document", s.edit(1, 1, 0), 1);
        Checks.due("edit(2, 0, 1), another value", s.edit(2, 0, 1), 2);
        Checks.due("edit(0, 0, 0), not a first one", s.edit(0, 0, 0), 3);
        Checks.due("edit(2, 0, 0), another parent", s.edit(2, 0, 0), 4);
        Checks.due("edit(1, 0, 0), the first one", s.edit(1, 0, 0), 0);
        Checks.due("delete(1, 0, 0), a mark", s.delete(1, 0, 0), 5);
        Checks.due("delete(1, 1, 0), a mark of another document", s.delete(1, 1, 0), 6);
    }

    private static void marksAreTheSame() {
        Checks.part("two marks with the same parent are the same revision");
        DocumentStores s = new DocumentStores();
        s.edit(0, 2, 8);
        s.edit(1, 2, 8);
        Checks.due("delete(0, 2, 0)", s.delete(0, 2, 0), 1);
        Checks.due("delete(1, 2, 0)", s.delete(1, 2, 0), 1);
        Checks.due("edit(1, 2, 0), on the mark", s.edit(1, 2, 0), 2);
        s.edit(2, 2, 8);
        Checks.due("edit(2, 2, 0), beside the mark", s.edit(2, 2, 0), 3);
        Checks.due("revisions()", s.revisions(), 4);
    }

    private static void generations() {
        Checks.part("the generation of a first one is 1, of others that of the parent plus 1");
        DocumentStores s = States.chain();
        for (int r = 0; r < 80; r++) {
            Checks.due("revision(" + r + ", 2)", s.revision(r, 2), r + 1);
        }
        DocumentStores t = States.fan(0, 4, 5);
        t.delete(0, 0, 1);
        t.edit(2, 0, 6);
        Checks.due("generation of a mark", t.revision(2, 2), 2);
        Checks.due("generation of a first one", t.revision(3, 2), 1);
    }

    private static void aMarkHasTheValueZero() {
        Checks.part("the value of a mark is 0");
        DocumentStores s = States.fan(0, 9);
        s.delete(0, 0, 0);
        Checks.due("body of a mark", s.body(0, 1), 0);
        s.copy(0, 1);
        Checks.due("body of a mark, copied", s.body(1, 1), 0);
        DocumentStores t = States.fan(0, 9);
        t.copy(0, 1);
        t.copy(0, 2);
        t.edit(1, 0, -1);
        t.edit(2, 0, 1);
        t.delete(0, 0, 0);
        t.copy(1, 0);
        t.copy(2, 0);
        Checks.due("leaves, 1 before the mark before -1", Checks.leavesOf(t, 0, 0), "2 3 1");
    }

    private static void aLeafIsNoParentInItsStore() {
        Checks.part("a leaf is no parent of one that the store knows");
        DocumentStores s = States.fan(0, 1);
        s.copy(0, 1);
        s.edit(1, 0, 2);
        Checks.due("leaves of store 0, which knows no child", Checks.leavesOf(s, 0, 0), "0");
        Checks.due("leaves of store 1", Checks.leavesOf(s, 1, 0), "1");
        s.copy(1, 0);
        Checks.due("leaves of store 0", Checks.leavesOf(s, 0, 0), "1");
    }

    private static void ofLeavesThatAreNoMarks() {
        Checks.part("the winner is of the leaves that are no marks");
        DocumentStores s = States.fan(0, 9, -9);
        s.delete(0, 0, 0);
        Checks.due("winner beside a mark of a greater generation", s.winner(0, 0), 1);
        s.edit(0, 0, Checks.MIN);
        Checks.due("winner beside a mark of its generation", s.winner(0, 0), 3);
        Checks.due("leaf 0", s.leaf(0, 0, 0), 2);
    }

    private static void elseOfAllLeaves() {
        Checks.part("else of all leaves");
        DocumentStores s = States.fan(0, -9, 9);
        s.delete(0, 0, 0);
        s.delete(0, 0, 1);
        Checks.due("leaves", Checks.leavesOf(s, 0, 0), "2 3");
        Checks.due("winner of two marks, by path", s.winner(0, 0), 2);
        DocumentStores t = States.fan(0, -9, 9);
        t.editLeaf(0, 0, 1, 0);
        t.delete(0, 0, 0);
        t.delete(0, 0, 1);
        Checks.due("winner of two marks, by generation", t.winner(0, 0), 3);
        Checks.due("size(0)", t.size(0), 0);
    }

    private static void theGreatestGeneration() {
        Checks.part("the greatest generation wins");
        DocumentStores s = States.fan(0, Checks.MAX, Checks.MIN);
        s.editLeaf(0, 0, 1, Checks.MIN);
        Checks.due("winner", s.winner(0, 0), 2);
        DocumentStores t = new DocumentStores();
        for (int x = 0; x < 39; x++) {
            t.edit(0, 0, 1);
        }
        for (int x = 0; x < 40; x++) {
            t.edit(1, 0, -1);
        }
        t.copy(0, 1);
        Checks.due("leaves, generations 40 and 39", Checks.leavesOf(t, 1, 0), "78 38");
    }

    /** Neither their difference, nor their bits, nor their digits. */
    private static void numbersAreComparedAsInts() {
        Checks.part("numbers compared as ints");
        DocumentStores s = States.fan(0, 9, 10, 100, -1, -2, Checks.MIN, Checks.MAX, 0, -10);
        Checks.due("leaves", Checks.leavesOf(s, 0, 0), "6 2 1 0 7 3 4 8 5");
        Checks.due("winner", s.winner(0, 0), 6);
        DocumentStores t = States.fan(0, Checks.MAX, Checks.MIN);
        Checks.due("winner of the ends", t.winner(0, 0), 0);
        DocumentStores u = States.fan(0, Checks.MIN, Checks.MAX);
        Checks.due("winner of the ends, the other order", u.winner(0, 0), 1);
    }

    private static DocumentStores twoChains(int first0, int later0, int first1, int later1) {
        DocumentStores s = new DocumentStores();
        s.edit(0, 0, first0);
        s.edit(1, 0, first1);
        for (int i = 0; i < 39; i++) {
            s.edit(0, 0, later0);
            s.edit(1, 0, later1);
        }
        s.copy(1, 0);
        s.copy(0, 1);
        return s;
    }

    private static void theFirstDifferenceDecides() {
        Checks.part("of several that with the last path, the first difference");
        DocumentStores s = twoChains(2, -100, 1, 100);
        Checks.due("revisions()", s.revisions(), 80);
        Checks.due("leaves in store 0", Checks.leavesOf(s, 0, 0), "78 79");
        Checks.due("leaves in store 1", Checks.leavesOf(s, 1, 0), "78 79");
        DocumentStores t = twoChains(1, 100, 2, -100);
        Checks.due("leaves in store 0", Checks.leavesOf(t, 0, 0), "79 78");
        Checks.due("winner in store 1", t.winner(1, 0), 79);
    }

    private static void theLastPlaceDecides() {
        Checks.part("of several that with the last path, the last place");
        for (int x : new int[] {-1, 1}) {
            DocumentStores s = new DocumentStores();
            for (int i = 0; i < 78; i++) {
                s.edit(0, 0, 7);
            }
            s.copy(0, 1);
            s.edit(0, 0, 0);
            s.edit(1, 0, x);
            s.copy(1, 0);
            Checks.due("leaves", Checks.leavesOf(s, 0, 0), x < 0 ? "78 79" : "79 78");
            Checks.due("winner", s.winner(0, 0), x < 0 ? 78 : 79);
        }
    }

    private static void aMarkOnThePathDecides() {
        Checks.part("of several that with the last path, 1 for a mark, else 0");
        for (int marked = 0; marked < 2; marked++) {
            DocumentStores s = States.fan(0, 5);
            s.copy(0, 1);
            for (int n = 0; n < 2; n++) {
                int r = n == marked ? s.delete(n, 0, 0) : s.edit(n, 0, 0);
                Checks.due("a mark or the value 0", r, n + 1);
            }
            s.copy(0, 2);
            s.copy(1, 2);
            String due = marked == 0 ? "1 2" : "2 1";
            Checks.due("leaves, the mark before the value 0", Checks.leavesOf(s, 2, 0), due);
            s.edit(1 - marked, 0, 8);
            s.edit(marked, 0, 4);
            s.copy(0, 1);
            s.copy(1, 0);
            Checks.due("leaves in store 0", Checks.leavesOf(s, 0, 0), "4 3");
            Checks.due("leaves in store 1", Checks.leavesOf(s, 1, 0), "4 3");
            Checks.due("winner", s.winner(0, 0), 4);
        }
    }

    private static void aDocumentExistsWithAWinnerThatIsNoMark() {
        Checks.part("a document exists if its winner is there and no mark");
        DocumentStores s = new DocumentStores();
        Checks.due("size, no revision", s.size(0), 0);
        s.edit(0, 6, 0);
        Checks.due("size, the value 0", s.size(0), 1);
        s.delete(0, 6, 0);
        Checks.due("size, a mark alone", s.size(0), 0);
        s.edit(1, 6, 1);
        s.copy(1, 0);
        Checks.due("size, a mark and another leaf", s.size(0), 1);
        s.purge(0, 6);
        Checks.due("size, purged", s.size(0), 0);
    }

    private static void theCountIsZeroAtFirst() {
        Checks.part("the count is 0 at first");
        for (int n = 0; n < 3; n++) {
            DocumentStores s = new DocumentStores();
            Checks.due("count(" + n + ")", s.count(n), 0);
            s.edit(n, 0, 1);
            Checks.due("count(" + n + ")", s.count(n), 1);
            Checks.due("stamp(" + n + ", 0)", s.stamp(n, 0), 1);
            Checks.due("count of the next", s.count((n + 1) % 3), 0);
        }
    }

    private static void oneStampForAFurtherRevision() {
        Checks.part("a further revision gives the count plus 1 as the stamp");
        DocumentStores s = new DocumentStores();
        s.edit(0, 0, 1);
        s.edit(0, 1, 1);
        Checks.due("stamp(0, 0)", s.stamp(0, 0), 1);
        s.editLeaf(0, 0, 0, 2);
        Checks.due("stamp(0, 0)", s.stamp(0, 0), 3);
        s.delete(0, 1, 0);
        Checks.due("stamp(0, 1)", s.stamp(0, 1), 4);
        Checks.due("stamp(0, 0)", s.stamp(0, 0), 3);
        s.edit(1, 0, 1);
        Checks.due("stamp(1, 0), a revision made before", s.stamp(1, 0), 1);
        Checks.due("count(1), a revision made before", s.count(1), 1);
        Checks.due("count(0)", s.count(0), 4);
    }

    private static void oneStampForADocumentThatIsCopied() {
        Checks.part("a copied document gets one stamp, whatever comes with it");
        DocumentStores s = States.chain();
        Checks.due("copy(0, 2)", s.copy(0, 2), 1);
        Checks.due("count(2)", s.count(2), 1);
        Checks.due("stamp(2, 0)", s.stamp(2, 0), 1);
        Checks.due("copy(0, 2), no further revision", s.copy(0, 2), 0);
        Checks.due("count(2)", s.count(2), 1);
        Checks.due("count(0)", s.count(0), 80);
    }

    private static void theSameValueByRisingNumber() {
        Checks.part("of the same value by rising number");
        int[] order = {3, 7, 0, 6, 1, 5, 2, 4};
        DocumentStores s = new DocumentStores();
        for (int d : order) {
            s.edit(0, d, -7);
        }
        Checks.due("view", Checks.viewOf(s, 0), "0 1 2 3 4 5 6 7");
        s.edit(0, 0, -6);
        s.edit(0, 7, -8);
        Checks.due("view", Checks.viewOf(s, 0), "7 1 2 3 4 5 6 0");
        s.edit(0, 7, -6);
        s.edit(0, 0, -6);
        Checks.due("view", Checks.viewOf(s, 0), "1 2 3 4 5 6 0 7");
    }
}
