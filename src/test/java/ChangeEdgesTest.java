import java.util.Arrays;

/** Promises 2 to 7 and 23: the boundary cases of the calls that change a store, one by one. */
public final class ChangeEdgesTest {
    private static final int[] ODD_VALUES = {
        0, -1, Checks.MIN, Checks.MAX, Checks.BAD_ARG, Checks.FULL, Checks.NONE, Checks.GONE
    };

    public static void main(String[] args) {
        editMakesAFirstOneIfThereIsNoneThere();
        editMakesAFirstOneAfterAPurge();
        editOnAMarkIsNoFirstOne();
        editTakesAnyValue();
        editHasTheBody();
        editIsFullForANewOne();
        editIsNotFullForOneMadeBefore();
        editOfAKnownOneChangesNothing();
        editLeafWithoutSuchALeaf();
        editLeafTakesTheLastAndTheFirstLeaf();
        editLeafOfAMark();
        editLeafIsFull();
        editLeafTestsTheLeafBeforeFull();
        deleteWithoutSuchALeaf();
        deleteTakesTheLastAndTheFirstLeaf();
        deleteOfAMark();
        deleteHasTheBody();
        deleteIsFull();
        deleteTestsTheLeafBeforeFull();
        copyToItself();
        copyToNoStore();
        copyFromAnEmptyStore();
        copyOfAllDocuments();
        copyOfNothingNew();
        copyIntoAFullerStore();
        copyOfAPurgedDocument();
        copyInTheOrderOfTheStamps();
        copyOfEightyRevisions();
        copyFromACompactedStore();
        copyIntoAStoreWithItsOwn();
        compactOfAnEmptyStore();
        compactOfLeavesOnly();
        compactOfAChain();
        compactOfOneStore();
        compactTwice();
        compactAfterAPurge();
        purgeOfNothing();
        purgeOfOneAndOfEighty();
        purgeTwice();
        purgeTakesTheStamp();
        Checks.end();
    }

    private static void editMakesAFirstOneIfThereIsNoneThere() {
        Checks.part("promise 2, a first one if d has no revision there");
        DocumentStores s = new DocumentStores();
        s.edit(0, 3, 1);
        s.edit(1, 2, 1);
        Checks.due("edit(1, 3, 2)", s.edit(1, 3, 2), 2);
        Checks.due("parent of 2", s.revision(2, 1), Checks.NONE);
        Checks.due("generation of 2", s.revision(2, 2), 1);
    }

    private static void editMakesAFirstOneAfterAPurge() {
        Checks.part("promise 2, a first one after a purge");
        DocumentStores s = new DocumentStores();
        s.edit(0, 3, 1);
        s.edit(0, 3, 2);
        s.purge(0, 3);
        Checks.due("edit(0, 3, 2)", s.edit(0, 3, 2), 2);
        Checks.due("parent of 2", s.revision(2, 1), Checks.NONE);
        Checks.due("leaves(0, 3)", s.leaves(0, 3), 1);
    }

    private static void editOnAMarkIsNoFirstOne() {
        Checks.part("promise 2, on a mark alone");
        DocumentStores s = States.fan(3, 1);
        s.delete(0, 3, 0);
        Checks.due("edit(0, 3, 1)", s.edit(0, 3, 1), 2);
        Checks.due("parent of 2", s.revision(2, 1), 1);
    }

    private static void editTakesAnyValue() {
        Checks.part("promise 2, any int");
        DocumentStores s = new DocumentStores();
        for (int i = 0; i < ODD_VALUES.length; i++) {
            Checks.due("edit(0, 0, " + ODD_VALUES[i] + ")", s.edit(0, 0, ODD_VALUES[i]), i);
            Checks.due("body(0, " + i + ")", s.body(0, i), ODD_VALUES[i]);
            Checks.due("editLeaf", s.editLeaf(1, 0, 0, ODD_VALUES[i]), Checks.NONE);
        }
        DocumentStores t = States.fan(0, 1);
        for (int i = 0; i < ODD_VALUES.length; i++) {
            Checks.due("editLeaf " + ODD_VALUES[i], t.editLeaf(0, 0, 0, ODD_VALUES[i]), i + 1);
            Checks.due("body(0, " + (i + 1) + ")", t.body(0, i + 1), ODD_VALUES[i]);
        }
    }

    private static void editHasTheBody() {
        Checks.part("promise 2, has its body");
        DocumentStores s = new DocumentStores();
        s.edit(0, 0, 4);
        s.edit(0, 0, 5);
        s.compact(0);
        Checks.due("edit(1, 0, 4), whose body another store dropped", s.edit(1, 0, 4), 0);
        Checks.due("body(1, 0)", s.body(1, 0), 4);
        Checks.due("body(0, 0)", s.body(0, 0), Checks.GONE);
        s.purge(0, 0);
        s.edit(0, 0, 4);
        Checks.due("body(0, 0), made again after a purge", s.body(0, 0), 4);
    }

    private static void editIsFullForANewOne() {
        Checks.part("promise 2, FULL if it is a new one and 80 were made");
        DocumentStores s = States.chain();
        Checks.due("edit(0, 0, 79), the same value on top", s.edit(0, 0, 79), Checks.FULL);
        Checks.due("edit(0, 7, 0), an empty document", s.edit(0, 7, 0), Checks.FULL);
        Checks.due("edit(2, 0, 1), an empty store", s.edit(2, 0, 1), Checks.FULL);
        Checks.due("edit(1, 1, 0), another document", s.edit(1, 1, 0), Checks.FULL);
        Checks.due("revisions()", s.revisions(), 80);
    }

    private static void editIsNotFullForOneMadeBefore() {
        Checks.part("promise 2, the number of one made before, also when 80 were made");
        DocumentStores s = States.chain();
        for (int r = 0; r < 80; r++) {
            Checks.due("edit(2, 0, " + r + ")", s.edit(2, 0, r), r);
        }
        Checks.due("edit(2, 0, 80)", s.edit(2, 0, 80), Checks.FULL);
        Checks.due("agree(0, 2)", s.agree(0, 2), true);
        Checks.due("count(2)", s.count(2), 80);
        Checks.due("body(2, 79)", s.body(2, 79), 79);
    }

    /**
     * A winner has no child in its store, so no run is known that comes to this sentence. Asked of
     * every edit in a run is that it gives a stamp if its revision was not known, and else none.
     */
    private static void editOfAKnownOneChangesNothing() {
        Checks.part("promise 2, if the store knows it already nothing changes");
        DocumentStores s = new DocumentStores();
        for (int i = 0; i < 24; i++) {
            int n = i % 3;
            boolean[] knew = new boolean[80];
            int made = s.revisions();
            for (int r = 0; r < made; r++) {
                knew[r] = s.knows(n, r);
            }
            int before = s.count(n);
            int r = s.edit(n, 0, i / 3 % 2);
            Checks.due("count after edit " + i, s.count(n), before + (knew[r] ? 0 : 1));
            Checks.due("stamp after edit " + i, s.stamp(n, 0), s.count(n));
            if (i % 4 == 3) {
                s.copy(n, (n + 1) % 3);
            }
        }
    }

    private static int[] noPlaces(int leaves) {
        return new int[] {-1, leaves, leaves + 1, 79, 80, Checks.MIN, Checks.MAX, Checks.NONE};
    }

    private static void editLeafWithoutSuchALeaf() {
        Checks.part("promise 3, NONE if there is no such leaf");
        for (int leaves = 0; leaves <= 3; leaves++) {
            DocumentStores s = States.fan(6, Arrays.copyOf(new int[] {1, 2, 3}, leaves));
            for (int k : noPlaces(leaves)) {
                Checks.due("editLeaf(0, 6, " + k + ", 1) with " + leaves + " leaves",
                    s.editLeaf(0, 6, k, 1), Checks.NONE);
            }
            Checks.due("editLeaf(0, 5, 0, 1), an empty document", s.editLeaf(0, 5, 0, 1), Checks.NONE);
            Checks.due("editLeaf(2, 6, 0, 1), an empty store", s.editLeaf(2, 6, 0, 1), Checks.NONE);
            Checks.due("revisions()", s.revisions(), leaves);
        }
    }

    private static void editLeafTakesTheLastAndTheFirstLeaf() {
        Checks.part("promise 3, k = 0 is the last leaf");
        for (int k = 0; k < 3; k++) {
            DocumentStores s = States.fan(6, 10, 30, 20);
            Checks.due("editLeaf(0, 6, " + k + ", 5)", s.editLeaf(0, 6, k, 5), 3);
            Checks.due("parent for k = " + k, s.revision(3, 1), new int[] {1, 2, 0}[k]);
        }
    }

    private static void editLeafOfAMark() {
        Checks.part("promise 3, a leaf that is a mark");
        DocumentStores s = States.fan(6, 10, 20);
        s.delete(0, 6, 0);
        Checks.due("editLeaf(0, 6, 0, 5)", s.editLeaf(0, 6, 0, 5), 3);
        Checks.due("parent", s.revision(3, 1), 2);
        Checks.due("winner(0, 6)", s.winner(0, 6), 3);
    }

    private static void editLeafIsFull() {
        Checks.part("promise 3, FULL, and the number of one made before");
        DocumentStores s = States.chain();
        Checks.due("editLeaf(0, 0, 0, 1)", s.editLeaf(0, 0, 0, 1), Checks.FULL);
        s.edit(1, 0, 0);
        Checks.due("editLeaf(1, 0, 0, 2)", s.editLeaf(1, 0, 0, 2), Checks.FULL);
        Checks.due("editLeaf(1, 0, 0, 1), made before", s.editLeaf(1, 0, 0, 1), 1);
        Checks.due("stamp(1, 0)", s.stamp(1, 0), 2);
        Checks.due("body(1, 1)", s.body(1, 1), 1);
    }

    private static void editLeafTestsTheLeafBeforeFull() {
        Checks.part("promise 3, NONE before FULL");
        DocumentStores s = States.chain();
        for (int k : noPlaces(1)) {
            Checks.due("editLeaf(0, 0, " + k + ", 1)", s.editLeaf(0, 0, k, 1), Checks.NONE);
        }
        Checks.due("editLeaf(0, 1, 0, 1)", s.editLeaf(0, 1, 0, 1), Checks.NONE);
    }

    private static void deleteWithoutSuchALeaf() {
        Checks.part("promise 4, NONE if there is no such leaf");
        for (int leaves = 0; leaves <= 3; leaves++) {
            DocumentStores s = States.fan(6, Arrays.copyOf(new int[] {1, 2, 3}, leaves));
            for (int k : noPlaces(leaves)) {
                Checks.due("delete(0, 6, " + k + ") with " + leaves + " leaves",
                    s.delete(0, 6, k), Checks.NONE);
            }
            Checks.due("delete(0, 5, 0), an empty document", s.delete(0, 5, 0), Checks.NONE);
            Checks.due("delete(2, 6, 0), an empty store", s.delete(2, 6, 0), Checks.NONE);
            Checks.due("revisions()", s.revisions(), leaves);
        }
    }

    private static void deleteTakesTheLastAndTheFirstLeaf() {
        Checks.part("promise 4, leaf k as in editLeaf");
        for (int k = 0; k < 3; k++) {
            DocumentStores s = States.fan(6, 10, 30, 20);
            Checks.due("delete(0, 6, " + k + ")", s.delete(0, 6, k), 3);
            Checks.due("parent for k = " + k, s.revision(3, 1), new int[] {1, 2, 0}[k]);
            Checks.due("a mark", s.revision(3, 3), 1);
        }
    }

    private static void deleteOfAMark() {
        Checks.part("promise 4, NONE if it is a mark");
        DocumentStores s = States.fan(6, 10, 20);
        s.delete(0, 6, 0);
        Checks.due("delete(0, 6, 0), the mark", s.delete(0, 6, 0), Checks.NONE);
        Checks.due("delete(0, 6, 1), beside the mark", s.delete(0, 6, 1), 3);
        Checks.due("delete(0, 6, 0), two marks", s.delete(0, 6, 0), Checks.NONE);
        Checks.due("delete(0, 6, 1), two marks", s.delete(0, 6, 1), Checks.NONE);
        s.edit(0, 6, 0);
        Checks.due("delete(0, 6, 0), an edit on the mark", s.delete(0, 6, 0), 5);
    }

    private static void deleteHasTheBody() {
        Checks.part("promise 4, has its body");
        DocumentStores s = States.fan(6, 10);
        Checks.due("delete(0, 6, 0)", s.delete(0, 6, 0), 1);
        Checks.due("body(0, 1)", s.body(0, 1), 0);
        s.edit(2, 6, 10);
        Checks.due("delete(2, 6, 0), made before", s.delete(2, 6, 0), 1);
        Checks.due("body(2, 1)", s.body(2, 1), 0);
        Checks.due("stamp(2, 6)", s.stamp(2, 6), 2);
    }

    /** Revisions 0 and 1 are a first one of document 1 and a mark on it, the rest is a chain. */
    private static DocumentStores fullWithAMark() {
        DocumentStores s = new DocumentStores();
        s.edit(0, 1, 7);
        s.delete(0, 1, 0);
        for (int x = 0; x < 78; x++) {
            s.edit(0, 0, x);
        }
        return s;
    }

    private static void deleteIsFull() {
        Checks.part("promise 4, FULL, and the number of one made before");
        DocumentStores s = fullWithAMark();
        Checks.due("revisions()", s.revisions(), 80);
        Checks.due("delete(0, 0, 0)", s.delete(0, 0, 0), Checks.FULL);
        s.edit(1, 1, 7);
        Checks.due("delete(1, 1, 0), made before", s.delete(1, 1, 0), 1);
        Checks.due("winner(1, 1)", s.winner(1, 1), 1);
        s.edit(1, 0, 0);
        Checks.due("delete(1, 0, 0)", s.delete(1, 0, 0), Checks.FULL);
    }

    private static void deleteTestsTheLeafBeforeFull() {
        Checks.part("promise 4, NONE before FULL");
        DocumentStores s = fullWithAMark();
        for (int k : noPlaces(1)) {
            Checks.due("delete(0, 0, " + k + ")", s.delete(0, 0, k), Checks.NONE);
        }
        Checks.due("delete(0, 1, 0), a mark", s.delete(0, 1, 0), Checks.NONE);
        Checks.due("delete(0, 2, 0), an empty document", s.delete(0, 2, 0), Checks.NONE);
    }

    private static void copyToItself() {
        Checks.part("promise 5, BAD_ARG if n = to");
        for (int n = 0; n < 3; n++) {
            Checks.due("copy(n, n), a new object", new DocumentStores().copy(n, n), Checks.BAD_ARG);
            Checks.due("copy(n, n), crowded", States.crowded().copy(n, n), Checks.BAD_ARG);
        }
    }

    private static void copyToNoStore() {
        Checks.part("promise 23, BAD_ARG if to is not 0 to 2");
        for (int to : Calls.NO_STORES) {
            for (int n = 0; n < 3; n++) {
                String call = "copy(" + n + ", " + to + ")";
                Checks.due(call, new DocumentStores().copy(n, to), Checks.BAD_ARG);
                Checks.due(call + ", crowded", States.crowded().copy(n, to), Checks.BAD_ARG);
            }
            Checks.due("copy(to, to)", States.crowded().copy(to, to), Checks.BAD_ARG);
            Checks.due("copy(-1, to)", States.crowded().copy(-1, to), Checks.BAD_ARG);
        }
        for (int n = 0; n < 3; n++) {
            for (int to = 0; to < 3; to++) {
                int due = n == to ? Checks.BAD_ARG : 0;
                Checks.due("copy(" + n + ", " + to + ")", new DocumentStores().copy(n, to), due);
            }
        }
    }

    private static void copyFromAnEmptyStore() {
        Checks.part("promise 5, a store that knows nothing");
        DocumentStores s = States.chain();
        Checks.due("copy(1, 2)", s.copy(1, 2), 0);
        Checks.due("copy(1, 0)", s.copy(1, 0), 0);
        Checks.due("count(0)", s.count(0), 80);
        Checks.due("knows(0, 79)", s.knows(0, 79), true);
    }

    private static void copyOfAllDocuments() {
        Checks.part("promise 5, the number of these documents, 0 to 8");
        for (int documents = 0; documents <= 8; documents++) {
            DocumentStores s = new DocumentStores();
            for (int d = 0; d < documents; d++) {
                s.edit(2, 7 - d, d);
            }
            Checks.due("copy(2, 0)", s.copy(2, 0), documents);
            Checks.due("size(0)", s.size(0), documents);
            Checks.due("count(0)", s.count(0), documents);
        }
    }

    private static void copyOfNothingNew() {
        Checks.part("promise 5, no revision that to does not know");
        Checks.due("copy(0, 1)", copied().copy(0, 1), 0);
        States.unchanged("copy(0, 1) once more", ChangeEdgesTest::copied, s -> s.copy(0, 1));
    }

    private static DocumentStores copied() {
        DocumentStores s = States.some();
        s.copy(0, 1);
        return s;
    }

    private static void copyIntoAFullerStore() {
        Checks.part("promise 5, a document that to knows more of");
        DocumentStores s = new DocumentStores();
        s.edit(0, 0, 1);
        s.copy(0, 1);
        s.edit(1, 0, 2);
        s.edit(0, 1, 1);
        Checks.due("copy(0, 1), document 1 alone", s.copy(0, 1), 1);
        Checks.due("stamp(1, 0)", s.stamp(1, 0), 2);
        Checks.due("stamp(1, 1)", s.stamp(1, 1), 3);
        Checks.due("knows(1, 1)", s.knows(1, 1), true);
        Checks.due("winner(1, 0)", s.winner(1, 0), 1);
        Checks.due("body(1, 0)", s.body(1, 0), 1);
    }

    private static void copyOfAPurgedDocument() {
        Checks.part("promise 5, a document that n has forgotten");
        DocumentStores s = new DocumentStores();
        s.edit(0, 4, 1);
        s.edit(0, 5, 1);
        s.copy(0, 1);
        s.purge(0, 4);
        Checks.due("copy(0, 2)", s.copy(0, 2), 1);
        Checks.due("winner(2, 4)", s.winner(2, 4), Checks.NONE);
        Checks.due("stamp(2, 4)", s.stamp(2, 4), 0);
        Checks.due("stamp(2, 5)", s.stamp(2, 5), 1);
        Checks.due("copy(0, 1)", s.copy(0, 1), 0);
        Checks.due("winner(1, 4)", s.winner(1, 4), 0);
    }

    private static void copyInTheOrderOfTheStamps() {
        Checks.part("promise 5, in the order of their stamps in n");
        int[] order = {6, 1, 7, 0, 3, 5, 2, 4};
        DocumentStores s = new DocumentStores();
        for (int d = 0; d < 8; d++) {
            s.edit(0, d, 50 - d);
        }
        for (int d : order) {
            s.edit(0, d, 1);
        }
        Checks.due("copy(0, 1)", s.copy(0, 1), 8);
        for (int i = 0; i < 8; i++) {
            Checks.due("stamp(1, " + order[i] + ")", s.stamp(1, order[i]), i + 1);
        }
        s.edit(1, 6, 1);
        Checks.due("copy(1, 2)", s.copy(1, 2), 8);
        Checks.due("stamp(2, 6), the last in store 1", s.stamp(2, 6), 8);
        Checks.due("stamp(2, 1), the first in store 1", s.stamp(2, 1), 1);
    }

    private static void copyOfEightyRevisions() {
        Checks.part("promise 5, all revisions, the bodies of leaves");
        DocumentStores s = States.chain();
        Checks.due("copy(0, 1)", s.copy(0, 1), 1);
        for (int r = 0; r < 80; r++) {
            Checks.due("body(1, " + r + ")", s.body(1, r), r == 79 ? 79 : Checks.GONE);
        }
        Checks.due("agree(0, 1)", s.agree(0, 1), true);
        Checks.due("compact(1)", s.compact(1), 0);
        Checks.due("body(0, 0)", s.body(0, 0), 0);
    }

    private static void copyFromACompactedStore() {
        Checks.part("promise 5, all revisions, also those that n does not have the body of");
        DocumentStores s = States.chain();
        s.compact(0);
        Checks.due("copy(0, 2)", s.copy(0, 2), 1);
        Checks.due("agree(0, 2)", s.agree(0, 2), true);
        Checks.due("knows(2, 0)", s.knows(2, 0), true);
        Checks.due("body(2, 0)", s.body(2, 0), Checks.GONE);
        Checks.due("body(2, 79)", s.body(2, 79), 79);
        Checks.due("purge(2, 0)", s.purge(2, 0), 80);
    }

    private static void copyIntoAStoreWithItsOwn() {
        Checks.part("promise 5, what to knows and has besides stays");
        DocumentStores s = new DocumentStores();
        s.edit(1, 0, 8);
        s.edit(1, 0, 9);
        s.edit(1, 1, 7);
        s.edit(0, 0, 8);
        s.edit(0, 0, 1);
        Checks.due("copy(0, 1)", s.copy(0, 1), 1);
        Checks.due("leaves(1, 0)", Checks.leavesOf(s, 1, 0), "1 3");
        Checks.due("body(1, 0), no leaf in store 0", s.body(1, 0), 8);
        Checks.due("body(1, 1), not known in store 0", s.body(1, 1), 9);
        Checks.due("body(1, 3)", s.body(1, 3), 1);
        Checks.due("winner(1, 1)", s.winner(1, 1), 2);
        Checks.due("stamp(1, 1)", s.stamp(1, 1), 3);
        Checks.due("knows(0, 1)", s.knows(0, 1), false);
        Checks.due("count(0)", s.count(0), 2);
    }

    private static void compactOfAnEmptyStore() {
        Checks.part("promise 6, a store that knows nothing");
        for (int n = 0; n < 3; n++) {
            Checks.due("compact(" + n + ")", new DocumentStores().compact(n), 0);
        }
        DocumentStores s = States.chain();
        Checks.due("compact(1)", s.compact(1), 0);
        Checks.due("body(0, 0), in another store", s.body(0, 0), 0);
    }

    private static void compactOfLeavesOnly() {
        Checks.part("promise 6, leaves keep their bodies");
        DocumentStores s = States.fan(0, 3, 1, 2);
        Checks.due("compact(0)", s.compact(0), 0);
        for (int r = 0; r < 3; r++) {
            Checks.due("body(0, " + r + ")", s.body(0, r), new int[] {3, 1, 2}[r]);
        }
        s.delete(0, 0, 2);
        Checks.due("compact(0), a mark on one", s.compact(0), 1);
        Checks.due("body(0, 1)", s.body(0, 1), Checks.GONE);
        Checks.due("body(0, 3), the mark", s.body(0, 3), 0);
        Checks.due("body(0, 0)", s.body(0, 0), 3);
    }

    private static void compactOfAChain() {
        Checks.part("promise 6, how many bodies it had of others");
        DocumentStores s = States.chain();
        Checks.due("compact(0)", s.compact(0), 79);
        for (int r = 0; r < 80; r++) {
            Checks.due("body(0, " + r + ")", s.body(0, r), r == 79 ? 79 : Checks.GONE);
        }
        Checks.due("winner(0, 0)", s.winner(0, 0), 79);
        Checks.due("count(0)", s.count(0), 80);
    }

    private static void compactOfOneStore() {
        Checks.part("promise 6, other stores keep their bodies");
        DocumentStores s = new DocumentStores();
        for (int n = 0; n < 3; n++) {
            s.edit(n, 0, 1);
            s.edit(n, 0, 2);
        }
        Checks.due("compact(1)", s.compact(1), 1);
        Checks.due("body(0, 0)", s.body(0, 0), 1);
        Checks.due("body(1, 0)", s.body(1, 0), Checks.GONE);
        Checks.due("body(2, 0)", s.body(2, 0), 1);
        Checks.due("compact(0)", s.compact(0), 1);
        Checks.due("compact(2)", s.compact(2), 1);
    }

    private static void compactTwice() {
        Checks.part("promise 6, bodies that are gone already");
        DocumentStores s = new DocumentStores();
        s.edit(0, 0, 1);
        s.edit(0, 0, 2);
        Checks.due("compact(0)", s.compact(0), 1);
        Checks.due("compact(0)", s.compact(0), 0);
        s.edit(0, 0, 3);
        Checks.due("compact(0), one more", s.compact(0), 1);
    }

    private static void compactAfterAPurge() {
        Checks.part("promise 6, bodies that were purged");
        DocumentStores s = new DocumentStores();
        s.edit(0, 0, 1);
        s.edit(0, 0, 2);
        s.edit(0, 1, 1);
        s.edit(0, 1, 2);
        s.purge(0, 0);
        Checks.due("compact(0)", s.compact(0), 1);
    }

    private static void purgeOfNothing() {
        Checks.part("promise 7, NONE if it knows none");
        for (int n = 0; n < 3; n++) {
            for (int d = 0; d < 8; d++) {
                String call = "purge(" + n + ", " + d + ")";
                Checks.due(call, new DocumentStores().purge(n, d), Checks.NONE);
                if (n != 0 || d != 0) {
                    Checks.due(call + ", a chain elsewhere", States.chain().purge(n, d), Checks.NONE);
                }
            }
        }
    }

    private static void purgeOfOneAndOfEighty() {
        Checks.part("promise 7, how many it knew");
        Checks.due("purge of one", States.fan(7, 1).purge(0, 7), 1);
        DocumentStores s = States.chain();
        s.compact(0);
        Checks.due("purge of eighty without their bodies", s.purge(0, 0), 80);
        Checks.due("revisions()", s.revisions(), 80);
        for (int r = 0; r < 80; r++) {
            Checks.due("knows(0, " + r + ")", s.knows(0, r), false);
        }
    }

    private static void purgeTwice() {
        Checks.part("promise 7, NONE after a purge");
        DocumentStores s = States.fan(7, 1, 2);
        s.delete(0, 7, 0);
        Checks.due("purge(0, 7)", s.purge(0, 7), 3);
        Checks.due("purge(0, 7)", s.purge(0, 7), Checks.NONE);
        s.edit(0, 7, 1);
        Checks.due("purge(0, 7), one made again", s.purge(0, 7), 1);
    }

    private static void purgeTakesTheStamp() {
        Checks.part("promise 7, its stamp there is 0");
        DocumentStores s = new DocumentStores();
        s.edit(0, 6, 1);
        s.edit(0, 7, 1);
        s.copy(0, 1);
        s.purge(0, 7);
        Checks.due("stamp(0, 7)", s.stamp(0, 7), 0);
        Checks.due("stamp(0, 6)", s.stamp(0, 6), 1);
        Checks.due("stamp(1, 7)", s.stamp(1, 7), 2);
        Checks.due("count(0)", s.count(0), 2);
        Checks.due("edit(0, 7, 1)", s.edit(0, 7, 1), 1);
        Checks.due("stamp(0, 7), the count goes on", s.stamp(0, 7), 3);
    }
}
