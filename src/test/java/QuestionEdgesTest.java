import java.util.Arrays;

/** Promises 8 to 22: the boundary cases of the questions, one by one. */
public final class QuestionEdgesTest {
    private static final int[] WRONG = {-1, Checks.MIN, Checks.MAX, Checks.NONE, 256, 65536, 1 << 28};

    public static void main(String[] args) {
        revisionsFromZeroToEighty();
        revisionWithAWrongWhat();
        revisionWithTheFirstAndTheLastWhat();
        revisionThatIsNotThere();
        revisionTestsWhatFirst();
        revisionWithoutAParent();
        revisionThatNoStoreKnows();
        knowsNoRevisionThatIsNotThere();
        knowsTheFirstAndTheLast();
        bodyOfOneThatIsNotKnown();
        bodyThatIsGone();
        bodyIsNoneBeforeGone();
        bodyThatLooksLikeACode();
        winnerOfAnEmptyDocument();
        leavesFromZeroToEighty();
        leafThatIsNotThere();
        leafIsOrderedAsInEditLeaf();
        conflictsWithOneTwoAndThreeLeaves();
        conflictsAndMarks();
        conflictsInAllDocuments();
        countOfAnEmptyStore();
        stampOfADocumentWithoutOne();
        sizeFromZeroToEight();
        viewedThatIsNotThere();
        viewedAtTheEnds();
        belowTheEnds();
        belowIsNotAt();
        totalOfAnEmptyView();
        totalWrapsUpwards();
        totalWrapsDownwards();
        totalOfTheGreatest();
        agreeOfEmptyStores();
        agreeOfOneStore();
        agreeWithNoStore();
        agreeWithOneRevisionMore();
        agreeLooksAtRevisionsAlone();
        agreeLooksAtAllRevisions();
        Checks.end();
    }

    private static int[] wrongFrom(int first) {
        int[] all = Arrays.copyOf(WRONG, WRONG.length + 2);
        all[WRONG.length] = first;
        all[WRONG.length + 1] = first + 1;
        return all;
    }

    private static void revisionsFromZeroToEighty() {
        Checks.part("promise 8, none and 80");
        DocumentStores s = new DocumentStores();
        Checks.due("revisions()", s.revisions(), 0);
        for (int r = 0; r < 80; r++) {
            s.edit(r % 3, r % 8, r);
            Checks.due("revisions()", s.revisions(), r + 1);
        }
        s.edit(0, 0, -1);
        Checks.due("revisions() behind the 80th", s.revisions(), 80);
        for (int d = 0; d < 8; d++) {
            s.purge(0, d);
        }
        Checks.due("revisions() after purges", s.revisions(), 80);
    }

    private static void revisionWithAWrongWhat() {
        Checks.part("promise 9, what not 0 to 3 answers BAD_ARG");
        DocumentStores s = States.chain();
        for (int what : wrongFrom(4)) {
            Checks.due("revision(0, " + what + ")", s.revision(0, what), Checks.BAD_ARG);
            Checks.due("revision(79, " + what + ")", s.revision(79, what), Checks.BAD_ARG);
        }
    }

    private static void revisionWithTheFirstAndTheLastWhat() {
        Checks.part("promise 9, what from 0 to 3");
        DocumentStores s = States.fan(7, 5);
        s.delete(0, 7, 0);
        int[] due = {7, 0, 2, 1};
        for (int what = 0; what < 4; what++) {
            Checks.due("revision(1, " + what + ")", s.revision(1, what), due[what]);
        }
        Checks.due("revision(0, 0)", s.revision(0, 0), 7);
        Checks.due("revision(0, 3)", s.revision(0, 3), 0);
    }

    private static void revisionThatIsNotThere() {
        Checks.part("promise 9, NONE if there is no such revision");
        for (int made = 0; made < 3; made++) {
            DocumentStores s = new DocumentStores();
            for (int x = 0; x < made; x++) {
                s.edit(0, 0, x);
            }
            for (int r : wrongFrom(made)) {
                for (int what = 0; what < 4; what++) {
                    Checks.due("revision(" + r + ", " + what + ")", s.revision(r, what), Checks.NONE);
                }
            }
        }
        Checks.due("revision(80, 2), a chain", States.chain().revision(80, 2), Checks.NONE);
        Checks.due("revision(79, 2), a chain", States.chain().revision(79, 2), 80);
    }

    private static void revisionTestsWhatFirst() {
        Checks.part("promise 9, BAD_ARG before NONE");
        DocumentStores s = new DocumentStores();
        DocumentStores full = States.chain();
        for (int what : wrongFrom(4)) {
            for (int r : wrongFrom(80)) {
                String call = "revision(" + r + ", " + what + ")";
                Checks.due(call, s.revision(r, what), Checks.BAD_ARG);
                Checks.due(call + ", a chain", full.revision(r, what), Checks.BAD_ARG);
            }
            Checks.due("revision(0, " + what + ")", s.revision(0, what), Checks.BAD_ARG);
        }
    }

    private static void revisionWithoutAParent() {
        Checks.part("promise 9, the parent is NONE if it is first");
        DocumentStores s = States.fan(3, 5, 6);
        s.edit(0, 3, 7);
        Checks.due("revision(0, 1)", s.revision(0, 1), Checks.NONE);
        Checks.due("revision(1, 1)", s.revision(1, 1), Checks.NONE);
        Checks.due("revision(2, 1)", s.revision(2, 1), 1);
    }

    private static void revisionThatNoStoreKnows() {
        Checks.part("promise 9, one that was made and is known nowhere");
        DocumentStores s = States.chain();
        s.purge(0, 0);
        Checks.due("revision(79, 0)", s.revision(79, 0), 0);
        Checks.due("revision(79, 1)", s.revision(79, 1), 78);
        Checks.due("revision(79, 2)", s.revision(79, 2), 80);
        Checks.due("revision(0, 3)", s.revision(0, 3), 0);
    }

    private static void knowsNoRevisionThatIsNotThere() {
        Checks.part("promise 10, false if there is none");
        DocumentStores s = States.fan(0, 5);
        DocumentStores full = States.crowded();
        for (int n = 0; n < 3; n++) {
            for (int r : wrongFrom(1)) {
                Checks.due("knows(" + n + ", " + r + ")", s.knows(n, r), false);
            }
            for (int r : wrongFrom(80)) {
                Checks.due("knows(" + n + ", " + r + "), crowded", full.knows(n, r), false);
            }
            Checks.due("knows(" + n + ", 0), new", new DocumentStores().knows(n, 0), false);
        }
    }

    private static void knowsTheFirstAndTheLast() {
        Checks.part("promise 10, the first and the last revision");
        DocumentStores s = States.chain();
        Checks.due("knows(0, 0)", s.knows(0, 0), true);
        Checks.due("knows(0, 79)", s.knows(0, 79), true);
        Checks.due("knows(1, 0)", s.knows(1, 0), false);
        Checks.due("knows(2, 79)", s.knows(2, 79), false);
        s.compact(0);
        Checks.due("knows(0, 0) without its body", s.knows(0, 0), true);
        s.purge(0, 0);
        Checks.due("knows(0, 79) after a purge", s.knows(0, 79), false);
    }

    private static void bodyOfOneThatIsNotKnown() {
        Checks.part("promise 11, NONE if n does not know it");
        DocumentStores s = States.fan(0, 5);
        DocumentStores full = States.crowded();
        Checks.due("body(1, 0)", s.body(1, 0), Checks.NONE);
        for (int n = 0; n < 3; n++) {
            for (int r : wrongFrom(1)) {
                Checks.due("body(" + n + ", " + r + ")", s.body(n, r), Checks.NONE);
            }
            for (int r : wrongFrom(80)) {
                Checks.due("body(" + n + ", " + r + "), crowded", full.body(n, r), Checks.NONE);
            }
            Checks.due("body(" + n + ", 0), new", new DocumentStores().body(n, 0), Checks.NONE);
        }
    }

    private static void bodyThatIsGone() {
        Checks.part("promise 11, GONE");
        DocumentStores s = States.chain();
        s.copy(0, 1);
        Checks.due("body(1, 0), not copied", s.body(1, 0), Checks.GONE);
        Checks.due("body(1, 78), not copied", s.body(1, 78), Checks.GONE);
        Checks.due("body(0, 0), not compacted", s.body(0, 0), 0);
        s.compact(0);
        Checks.due("body(0, 0), compacted", s.body(0, 0), Checks.GONE);
        Checks.due("body(0, 78), compacted", s.body(0, 78), Checks.GONE);
        Checks.due("body(0, 79), a leaf", s.body(0, 79), 79);
    }

    private static void bodyIsNoneBeforeGone() {
        Checks.part("promise 11, NONE where the body is gone with the revision");
        DocumentStores s = new DocumentStores();
        s.edit(0, 0, 1);
        s.edit(0, 0, 2);
        s.compact(0);
        s.purge(0, 0);
        Checks.due("body(0, 0)", s.body(0, 0), Checks.NONE);
        Checks.due("body(0, 1)", s.body(0, 1), Checks.NONE);
    }

    private static void bodyThatLooksLikeACode() {
        Checks.part("promise 11, values that are codes, or the ends");
        int[] values = {Checks.NONE, Checks.GONE, Checks.BAD_ARG, Checks.MIN, Checks.MAX, 0};
        DocumentStores s = States.fan(0, values);
        for (int r = 0; r < values.length; r++) {
            Checks.due("body(0, " + r + ")", s.body(0, r), values[r]);
        }
    }

    private static void winnerOfAnEmptyDocument() {
        Checks.part("promise 12, NONE if n knows no revision of it");
        DocumentStores s = States.fan(3, 5);
        for (int d = 0; d < 8; d++) {
            Checks.due("winner(0, " + d + ")", s.winner(0, d), d == 3 ? 0 : Checks.NONE);
            Checks.due("winner(1, " + d + "), purged", s.winner(1, d), Checks.NONE);
            Checks.due("winner(2, " + d + "), empty", s.winner(2, d), Checks.NONE);
        }
        s.delete(0, 3, 0);
        Checks.due("winner(0, 3), a mark alone", s.winner(0, 3), 1);
    }

    /** 80 leaves of one document: first ones with values that are no rising row. */
    private static DocumentStores eightyLeaves() {
        int[] values = new int[80];
        for (int r = 0; r < 80; r++) {
            values[r] = r * 37 % 80;
        }
        return States.fan(5, values);
    }

    private static void leavesFromZeroToEighty() {
        Checks.part("promise 13, none and 80");
        for (int d = 0; d < 8; d++) {
            Checks.due("leaves(0, " + d + "), new", new DocumentStores().leaves(0, d), 0);
        }
        DocumentStores s = eightyLeaves();
        Checks.due("leaves(0, 5)", s.leaves(0, 5), 80);
        Checks.due("leaves(0, 4)", s.leaves(0, 4), 0);
        Checks.due("leaves(1, 5), purged", s.leaves(1, 5), 0);
        Checks.due("leaves(0, 0) of a chain", States.chain().leaves(0, 0), 1);
    }

    private static void leafThatIsNotThere() {
        Checks.part("promise 14, NONE if there is none");
        for (int leaves = 0; leaves < 3; leaves++) {
            DocumentStores s = new DocumentStores();
            for (int n = 1; n <= leaves; n++) {
                s.edit(n, 5, n);
                s.copy(n, 0);
            }
            for (int k : wrongFrom(leaves)) {
                Checks.due("leaf(0, 5, " + k + ")", s.leaf(0, 5, k), Checks.NONE);
                Checks.due("leaf(0, 4, " + k + ")", s.leaf(0, 4, k), Checks.NONE);
            }
            Checks.due("leaf(0, 4, 0)", s.leaf(0, 4, 0), Checks.NONE);
        }
        DocumentStores s = eightyLeaves();
        Checks.due("leaf(0, 5, 80)", s.leaf(0, 5, 80), Checks.NONE);
        for (int k = 0; k < 80; k++) {
            int r = s.leaf(0, 5, k);
            Checks.due("value of leaf " + k, s.body(0, r), 79 - k);
        }
    }

    private static void leafIsOrderedAsInEditLeaf() {
        Checks.part("promise 14, ordered as in editLeaf");
        int[] values = {0, Checks.MIN, 3, Checks.MAX, -3};
        int[] due = {3, 2, 0, 4, 1};
        for (int k = 0; k < values.length; k++) {
            DocumentStores s = States.fan(5, values);
            Checks.due("leaf(0, 5, " + k + ")", s.leaf(0, 5, k), due[k]);
            int child = s.editLeaf(0, 5, k, 1);
            Checks.due("parent by editLeaf, k = " + k, s.revision(child, 1), due[k]);
            Checks.due("leaf(0, 5, 0), the child", s.leaf(0, 5, 0), child);
            int mark = s.delete(0, 5, 0);
            Checks.due("parent by delete", s.revision(mark, 1), child);
        }
    }

    private static void conflictsWithOneTwoAndThreeLeaves() {
        Checks.part("promise 15, at least two leaves");
        Checks.due("conflicts, new", new DocumentStores().conflicts(0), 0);
        Checks.due("conflicts, one leaf", States.fan(2, 1).conflicts(0), 0);
        Checks.due("conflicts, two leaves", States.fan(2, 1, 2).conflicts(0), 1);
        Checks.due("conflicts, three leaves", States.fan(2, 1, 2, 3).conflicts(0), 1);
        Checks.due("conflicts, eighty leaves", eightyLeaves().conflicts(0), 1);
        Checks.due("conflicts, a chain", States.chain().conflicts(0), 0);
        Checks.due("conflicts of another store", States.fan(2, 1, 2).conflicts(1), 0);
    }

    private static void conflictsAndMarks() {
        Checks.part("promise 15, leaves that are no marks");
        DocumentStores s = States.fan(2, 1, 2, 3);
        s.delete(0, 2, 0);
        Checks.due("conflicts, two leaves and a mark", s.conflicts(0), 1);
        s.delete(0, 2, 1);
        Checks.due("conflicts, one leaf and two marks", s.conflicts(0), 0);
        s.delete(0, 2, 2);
        Checks.due("conflicts, three marks", s.conflicts(0), 0);
        s.editLeaf(0, 2, 0, 1);
        Checks.due("conflicts, an edit on a mark", s.conflicts(0), 0);
        s.editLeaf(0, 2, 1, 1);
        Checks.due("conflicts, two edits on marks", s.conflicts(0), 1);
    }

    private static void conflictsInAllDocuments() {
        Checks.part("promise 15, 0 to 8 documents");
        DocumentStores s = new DocumentStores();
        for (int d = 0; d < 8; d++) {
            s.edit(0, d, 1);
            s.edit(1, d, 2);
            s.copy(1, 0);
            Checks.due("conflicts(0)", s.conflicts(0), d + 1);
        }
        Checks.due("conflicts(1)", s.conflicts(1), 0);
        for (int d = 0; d < 8; d++) {
            s.purge(0, d);
            Checks.due("conflicts(0)", s.conflicts(0), 7 - d);
        }
    }

    private static void countOfAnEmptyStore() {
        Checks.part("promise 16, a store that knows nothing");
        DocumentStores s = States.chain();
        Checks.due("count(0)", s.count(0), 80);
        Checks.due("count(1)", s.count(1), 0);
        Checks.due("count(2)", s.count(2), 0);
        s.purge(0, 0);
        Checks.due("count(0) of a store that was emptied", s.count(0), 80);
    }

    private static void stampOfADocumentWithoutOne() {
        Checks.part("promise 17, 0 if it has none");
        DocumentStores s = States.fan(3, 5);
        for (int d = 0; d < 8; d++) {
            Checks.due("stamp(0, " + d + ")", s.stamp(0, d), d == 3 ? 1 : 0);
            Checks.due("stamp(1, " + d + "), purged", s.stamp(1, d), 0);
            Checks.due("stamp(2, " + d + "), empty", s.stamp(2, d), 0);
        }
    }

    private static void sizeFromZeroToEight() {
        Checks.part("promise 18, none and 8");
        DocumentStores s = new DocumentStores();
        Checks.due("size(0)", s.size(0), 0);
        for (int d = 7; d >= 0; d--) {
            s.edit(0, d, 0);
            Checks.due("size(0)", s.size(0), 8 - d);
        }
        Checks.due("size(1)", s.size(1), 0);
        for (int d = 0; d < 8; d++) {
            s.delete(0, d, 0);
            Checks.due("size(0)", s.size(0), 7 - d);
        }
    }

    private static void viewedThatIsNotThere() {
        Checks.part("promise 19, NONE if there is none");
        for (int size = 0; size <= 8; size++) {
            DocumentStores s = new DocumentStores();
            for (int d = 0; d < size; d++) {
                s.edit(0, 7 - d, d);
            }
            for (int k : wrongFrom(size)) {
                Checks.due("viewed(0, " + k + "), size " + size, s.viewed(0, k), Checks.NONE);
                Checks.due("viewed(1, " + k + ")", s.viewed(1, k), Checks.NONE);
            }
            Checks.due("viewed(1, 0)", s.viewed(1, 0), Checks.NONE);
        }
        DocumentStores t = States.fan(0, 5);
        t.delete(0, 0, 0);
        Checks.due("viewed(0, 0), a mark alone", t.viewed(0, 0), Checks.NONE);
    }

    private static void viewedAtTheEnds() {
        Checks.part("promise 19, by rising values, the ends");
        int[] values = {Checks.MAX, 0, Checks.MIN, -1, 1, Checks.MAX - 1, Checks.MIN + 1, Checks.NONE};
        int[] due = {2, 6, 7, 3, 1, 4, 5, 0};
        DocumentStores s = new DocumentStores();
        for (int d = 0; d < 8; d++) {
            s.edit(0, d, values[d]);
        }
        for (int k = 0; k < 8; k++) {
            Checks.due("viewed(0, " + k + ")", s.viewed(0, k), due[k]);
        }
    }

    private static void belowTheEnds() {
        Checks.part("promise 20, the least and the greatest int");
        DocumentStores s = new DocumentStores();
        Checks.due("below(0, MAX), new", s.below(0, Checks.MAX), 0);
        s.edit(0, 0, Checks.MIN);
        s.edit(0, 1, Checks.MAX);
        Checks.due("below(0, MIN)", s.below(0, Checks.MIN), 0);
        Checks.due("below(0, MIN + 1)", s.below(0, Checks.MIN + 1), 1);
        Checks.due("below(0, 0)", s.below(0, 0), 1);
        Checks.due("below(0, MAX)", s.below(0, Checks.MAX), 1);
        Checks.due("below(1, MAX)", s.below(1, Checks.MAX), 0);
        s.delete(0, 0, 0);
        Checks.due("below(0, MAX), a mark", s.below(0, Checks.MAX), 0);
    }

    private static void belowIsNotAt() {
        Checks.part("promise 20, below and not at");
        DocumentStores s = new DocumentStores();
        for (int d = 0; d < 8; d++) {
            s.edit(0, d, 5);
        }
        Checks.due("below(0, 4)", s.below(0, 4), 0);
        Checks.due("below(0, 5)", s.below(0, 5), 0);
        Checks.due("below(0, 6)", s.below(0, 6), 8);
    }

    private static void totalOfAnEmptyView() {
        Checks.part("promise 21, an empty view");
        DocumentStores s = States.fan(0, 5);
        Checks.due("total(1)", s.total(1), 0);
        Checks.due("total(2)", s.total(2), 0);
        Checks.due("total(0)", s.total(0), 5);
        s.delete(0, 0, 0);
        Checks.due("total(0), a mark alone", s.total(0), 0);
    }

    private static void totalWrapsUpwards() {
        Checks.part("promise 21, wrapping over the greatest int");
        DocumentStores s = new DocumentStores();
        s.edit(0, 0, Checks.MAX);
        Checks.due("total(0)", s.total(0), Checks.MAX);
        s.edit(0, 1, 1);
        Checks.due("total(0)", s.total(0), Checks.MIN);
        s.edit(0, 2, Checks.MAX);
        Checks.due("total(0)", s.total(0), -1);
    }

    private static void totalWrapsDownwards() {
        Checks.part("promise 21, wrapping under the least int");
        DocumentStores s = new DocumentStores();
        s.edit(0, 6, Checks.MIN);
        Checks.due("total(0)", s.total(0), Checks.MIN);
        s.edit(0, 7, -1);
        Checks.due("total(0)", s.total(0), Checks.MAX);
        s.edit(0, 5, Checks.MIN);
        Checks.due("total(0)", s.total(0), -1);
    }

    private static void totalOfTheGreatest() {
        Checks.part("promise 21, eight times an end, wrapping four times");
        DocumentStores s = new DocumentStores();
        for (int d = 0; d < 8; d++) {
            s.edit(0, d, Checks.MAX);
            s.edit(1, d, Checks.MIN);
        }
        Checks.due("total(0)", s.total(0), -8);
        Checks.due("total(1)", s.total(1), 0);
        s.purge(1, 4);
        Checks.due("total(1)", s.total(1), Checks.MIN);
        s.edit(2, 4, Checks.BAD_ARG);
        Checks.due("total(2), a value like a code", s.total(2), Checks.BAD_ARG);
    }

    private static void agreeOfEmptyStores() {
        Checks.part("promise 22, stores that know nothing");
        DocumentStores s = States.chain();
        for (int n = 0; n < 3; n++) {
            for (int m = 0; m < 3; m++) {
                String call = "agree(" + n + ", " + m + ")";
                Checks.due(call + ", new", new DocumentStores().agree(n, m), true);
                Checks.due(call + ", a chain in 0", s.agree(n, m), n == m || n + m == 3);
            }
        }
    }

    private static void agreeOfOneStore() {
        Checks.part("promise 22, a store with itself");
        DocumentStores s = States.crowded();
        for (int n = 0; n < 3; n++) {
            Checks.due("agree(" + n + ", " + n + ")", s.agree(n, n), true);
        }
        Checks.due("agree(0, 1)", s.agree(0, 1), false);
    }

    private static void agreeWithNoStore() {
        Checks.part("promise 22, false if n or m is not 0 to 2");
        for (int wrong : Calls.NO_STORES) {
            DocumentStores s = new DocumentStores();
            for (int n = 0; n < 3; n++) {
                Checks.due("agree(" + n + ", " + wrong + ")", s.agree(n, wrong), false);
                Checks.due("agree(" + wrong + ", " + n + ")", s.agree(wrong, n), false);
            }
            Checks.due("agree(" + wrong + ", " + wrong + ")", s.agree(wrong, wrong), false);
        }
    }

    private static void agreeWithOneRevisionMore() {
        Checks.part("promise 22, one revision more, the first or the last");
        DocumentStores s = new DocumentStores();
        s.edit(0, 0, 1);
        Checks.due("agree(0, 1), the first", s.agree(0, 1), false);
        Checks.due("agree(1, 0), the first", s.agree(1, 0), false);
        DocumentStores t = new DocumentStores();
        for (int x = 0; x < 79; x++) {
            t.edit(0, 0, x);
        }
        t.copy(0, 1);
        Checks.due("agree(0, 1)", t.agree(0, 1), true);
        t.edit(0, 0, 79);
        Checks.due("agree(0, 1), the 80th", t.agree(0, 1), false);
        Checks.due("agree(1, 0), the 80th", t.agree(1, 0), false);
        DocumentStores u = new DocumentStores();
        u.edit(0, 0, 1);
        u.edit(1, 1, 1);
        Checks.due("agree(0, 1), one each", u.agree(0, 1), false);
    }

    private static void agreeLooksAtRevisionsAlone() {
        Checks.part("promise 22, other bodies, stamps and counts");
        DocumentStores s = new DocumentStores();
        s.edit(0, 0, 1);
        s.edit(0, 1, 1);
        s.edit(0, 0, 2);
        s.copy(0, 1);
        s.purge(1, 0);
        s.copy(0, 1);
        Checks.due("count(1)", s.count(1), 3);
        Checks.due("body(1, 0)", s.body(1, 0), Checks.GONE);
        Checks.due("agree(0, 1)", s.agree(0, 1), true);
        Checks.due("agree(1, 0)", s.agree(1, 0), true);
    }

    private static void agreeLooksAtAllRevisions() {
        Checks.part("promise 22, the same winner and stamps, but another leaf");
        DocumentStores s = new DocumentStores();
        s.edit(0, 0, 9);
        s.edit(1, 0, 9);
        s.edit(2, 0, 1);
        s.copy(2, 0);
        s.purge(2, 0);
        s.edit(2, 0, 2);
        s.copy(2, 1);
        Checks.due("winner(0, 0)", s.winner(0, 0), s.winner(1, 0));
        Checks.due("stamp(0, 0)", s.stamp(0, 0), s.stamp(1, 0));
        Checks.due("leaves(0, 0)", s.leaves(0, 0), s.leaves(1, 0));
        Checks.due("agree(0, 1)", s.agree(0, 1), false);
    }
}
