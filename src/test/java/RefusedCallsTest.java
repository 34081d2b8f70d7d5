import java.util.function.Supplier;
import java.util.function.ToIntFunction;

/** Terms: a refused call answers the code named and changes nothing; RangesTest has the ranges. */
public final class RefusedCallsTest {
    private static final int[] NO_PLACES = {
        -1, 80, Checks.MIN, Checks.MAX, Checks.NONE, 256, 65536
    };

    public static void main(String[] args) {
        noSuchLeaf();
        noLeafInAnEmptyDocument();
        aMarkIsNotDeleted();
        full();
        fullWithOtherRefusals();
        copyToItself();
        copyToNoStore();
        nothingToPurge();
        refusedQuestions();
        questions();
        Checks.end();
    }

    /** Makes the call on new objects: one for its answer, others for what it leaves. */
    private static void refused(String text, Supplier<DocumentStores> start, int code,
            ToIntFunction<DocumentStores> call) {
        Checks.due(text, call.applyAsInt(start.get()), code);
        States.unchanged(text, start, call::applyAsInt);
    }

    private static void noSuchLeaf() {
        Checks.part("NONE for no such leaf changes nothing");
        for (int k : NO_PLACES) {
            refused("editLeaf k = " + k, States::some, Checks.NONE, s -> s.editLeaf(0, 0, k, 1));
            refused("delete k = " + k, States::some, Checks.NONE, s -> s.delete(0, 0, k));
        }
        refused("editLeaf, the leaf behind the first one", States::some, Checks.NONE,
            s -> s.editLeaf(0, 0, s.leaves(0, 0), 1));
        refused("delete, the leaf behind the first one", States::some, Checks.NONE,
            s -> s.delete(0, 0, s.leaves(0, 0)));
    }

    private static void noLeafInAnEmptyDocument() {
        Checks.part("NONE in an empty document changes nothing");
        refused("editLeaf, a new object", DocumentStores::new, Checks.NONE,
            s -> s.editLeaf(0, 0, 0, 1));
        refused("delete, a new object", DocumentStores::new, Checks.NONE, s -> s.delete(0, 0, 0));
        refused("editLeaf, a purged document", States::some, Checks.NONE,
            s -> s.editLeaf(1, 3, 0, 1));
        refused("delete, a purged document", States::some, Checks.NONE, s -> s.delete(1, 3, 0));
    }

    private static DocumentStores markAlone() {
        DocumentStores s = States.fan(4, 7);
        s.delete(0, 4, 0);
        return s;
    }

    private static void aMarkIsNotDeleted() {
        Checks.part("NONE for a mark changes nothing");
        refused("delete(0, 4, 0)", RefusedCallsTest::markAlone, Checks.NONE,
            s -> s.delete(0, 4, 0));
    }

    private static void full() {
        Checks.part("FULL changes nothing");
        for (int n = 0; n < 3; n++) {
            for (int d = 0; d < 8; d += 7) {
                int store = n;
                int document = d;
                String of = "(" + n + ", " + d + ")";
                refused("edit" + of + ", crowded", States::crowded, Checks.FULL,
                    s -> s.edit(store, document, 12345));
                refused("editLeaf" + of + ", crowded", States::crowded, Checks.FULL,
                    s -> s.editLeaf(store, document, 0, 12345));
                refused("edit" + of + ", a chain", States::chain, Checks.FULL,
                    s -> s.edit(store, document, 12345));
            }
        }
        refused("editLeaf, a chain", States::chain, Checks.FULL, s -> s.editLeaf(0, 0, 0, 1));
        refused("delete, a chain", States::chain, Checks.FULL, s -> s.delete(0, 0, 0));
    }

    private static void fullWithOtherRefusals() {
        Checks.part("NONE when 80 were made changes nothing");
        refused("editLeaf, no such leaf", States::chain, Checks.NONE, s -> s.editLeaf(0, 0, 1, 1));
        refused("delete, no such leaf", States::chain, Checks.NONE, s -> s.delete(0, 0, 1));
        refused("editLeaf, an empty store", States::chain, Checks.NONE,
            s -> s.editLeaf(1, 0, 0, 1));
        refused("delete, an empty store", States::chain, Checks.NONE, s -> s.delete(1, 0, 0));
    }

    private static void copyToItself() {
        Checks.part("BAD_ARG for a copy to itself changes nothing");
        for (int n = 0; n < 3; n++) {
            int store = n;
            refused("copy(n, n), n = " + n, States::some, Checks.BAD_ARG, s -> s.copy(store, store));
            refused("copy(n, n), crowded, n = " + n, States::crowded, Checks.BAD_ARG,
                s -> s.copy(store, store));
        }
    }

    private static void copyToNoStore() {
        Checks.part("BAD_ARG for a copy to no store changes nothing");
        for (int to : Calls.NO_STORES) {
            refused("copy(0, " + to + ")", States::some, Checks.BAD_ARG, s -> s.copy(0, to));
            refused("copy(2, " + to + ")", States::some, Checks.BAD_ARG, s -> s.copy(2, to));
        }
    }

    private static void nothingToPurge() {
        Checks.part("NONE for a purge changes nothing");
        refused("purge, a new object", DocumentStores::new, Checks.NONE, s -> s.purge(0, 0));
        refused("purge, another document", States::some, Checks.NONE, s -> s.purge(0, 1));
        refused("purge, a purged document", States::some, Checks.NONE, s -> s.purge(1, 3));
        refused("purge, an empty store", States::chain, Checks.NONE, s -> s.purge(2, 0));
    }

    private static void refusedQuestions() {
        Checks.part("a refused question changes nothing");
        refused("revision, BAD_ARG", States::some, Checks.BAD_ARG, s -> s.revision(0, 4));
        refused("revision, NONE", States::some, Checks.NONE, s -> s.revision(80, 0));
        refused("knows, false", States::some, 0, s -> s.knows(0, -1) ? 1 : 0);
        refused("body, NONE", States::some, Checks.NONE, s -> s.body(1, 0));
        refused("body, GONE", States::some, Checks.GONE, s -> s.body(2, 0));
        refused("winner, NONE", States::some, Checks.NONE, s -> s.winner(0, 5));
        refused("leaf, NONE", States::some, Checks.NONE, s -> s.leaf(0, 0, 80));
        refused("viewed, NONE", States::some, Checks.NONE, s -> s.viewed(0, 8));
        refused("agree, false", States::some, 0, s -> s.agree(0, 3) ? 1 : 0);
    }

    private static void questions() {
        Checks.part("questions change nothing");
        States.unchanged("the questions, some", States::some, RefusedCallsTest::ask);
        States.unchanged("the questions, a chain", States::chain, RefusedCallsTest::ask);
        States.unchanged("the questions, crowded", States::crowded, RefusedCallsTest::ask);
    }

    private static void ask(DocumentStores s) {
        s.revisions();
        s.revision(0, 1);
        for (int n = 0; n < 3; n++) {
            s.knows(n, 0);
            s.body(n, 0);
            s.winner(n, 0);
            s.leaves(n, 0);
            s.leaf(n, 0, 0);
            s.conflicts(n);
            s.count(n);
            s.stamp(n, 0);
            s.size(n);
            s.viewed(n, 0);
            s.below(n, 10);
            s.total(n);
            s.agree(n, 2 - n);
        }
    }
}
