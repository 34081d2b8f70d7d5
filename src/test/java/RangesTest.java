import java.util.List;
import java.util.function.Supplier;

/** Terms: stores are 0 to 2, documents 0 to 7, others are refused before anything else; no throws. */
public final class RangesTest {
    private static final List<Supplier<DocumentStores>> STATES = List.of(
        DocumentStores::new, States::some, States::chain, States::crowded);
    private static final int[] EDGES = {
        Checks.MIN, Checks.NONE, -1, 0, 1, 2, 3, 7, 8, 79, 80, 239, 240, 1 << 28, Checks.MAX
    };

    public static void main(String[] args) {
        storesAreZeroToTwo();
        documentsAreZeroToSeven();
        eachStoreAndDocumentIsApart();
        aWrongStoreIsRefusedFirst();
        aWrongDocumentIsRefusedFirst();
        aWrongStoreBesideAWrongDocument();
        aWrongStoreChangesNothing();
        aWrongDocumentChangesNothing();
        noCallThrows();
        Checks.end();
    }

    private static void storesAreZeroToTwo() {
        Checks.part("three STORES, 0 to 2");
        for (int n = 0; n < 3; n++) {
            for (Calls.Call call : Calls.withStore()) {
                boolean toItself = call.text().equals("copy(n, " + n + ")");
                if (call.refusal() == Checks.BAD_ARG && !toItself) {
                    int got = call.open().answer(States.crowded(), n);
                    Checks.due(call.text() + " refused for n = " + n, got == Checks.BAD_ARG, false);
                }
            }
        }
    }

    private static void documentsAreZeroToSeven() {
        Checks.part("eight DOCUMENTS, 0 to 7");
        for (int n = 0; n < 3; n++) {
            for (Calls.Call call : Calls.withDocument(n)) {
                for (int d = 0; d < 8; d++) {
                    int got = call.open().answer(States.crowded(), d);
                    Checks.due(call.text() + " refused for d = " + d, got == Checks.BAD_ARG, false);
                }
            }
        }
    }

    private static void eachStoreAndDocumentIsApart() {
        Checks.part("three STORES and eight DOCUMENTS, each apart");
        DocumentStores s = new DocumentStores();
        for (int n = 0; n < 3; n++) {
            for (int d = 0; d < 8; d++) {
                Checks.due("edit", s.edit(n, d, 10 * n + d), 8 * n + d);
            }
        }
        for (int n = 0; n < 3; n++) {
            Checks.due("count(" + n + ")", s.count(n), 8);
            Checks.due("size(" + n + ")", s.size(n), 8);
            for (int d = 0; d < 8; d++) {
                String of = "(" + n + ", " + d + ")";
                Checks.due("winner" + of, s.winner(n, d), 8 * n + d);
                Checks.due("leaves" + of, s.leaves(n, d), 1);
                Checks.due("stamp" + of, s.stamp(n, d), d + 1);
                Checks.due("body of the winner" + of, s.body(n, 8 * n + d), 10 * n + d);
            }
        }
    }

    private static void aWrongStoreIsRefusedFirst() {
        Checks.part("a store that is not 0 to 2 answers BAD_ARG or false before anything else");
        for (Supplier<DocumentStores> state : STATES) {
            for (Calls.Call call : Calls.withStore()) {
                DocumentStores s = state.get();
                for (int n : Calls.NO_STORES) {
                    int got = call.open().answer(s, n);
                    Checks.due(call.text() + " for n = " + n, got, call.refusal());
                }
            }
        }
    }

    private static void aWrongDocumentIsRefusedFirst() {
        Checks.part("a document that is not 0 to 7 answers BAD_ARG before anything else");
        for (Supplier<DocumentStores> state : STATES) {
            for (int n = 0; n < 3; n++) {
                for (Calls.Call call : Calls.withDocument(n)) {
                    DocumentStores s = state.get();
                    for (int d : Calls.NO_DOCUMENTS) {
                        int got = call.open().answer(s, d);
                        Checks.due(call.text() + " for d = " + d, got, call.refusal());
                    }
                }
            }
        }
    }

    private static void aWrongStoreBesideAWrongDocument() {
        Checks.part("a store and a document out of range at once");
        DocumentStores s = States.crowded();
        for (int n : new int[] {-1, 3}) {
            for (Calls.Call call : Calls.withDocument(n)) {
                Checks.due(call.text() + " for d = -1", call.open().answer(s, -1), Checks.BAD_ARG);
                Checks.due(call.text() + " for d = 8", call.open().answer(s, 8), Checks.BAD_ARG);
            }
        }
    }

    private static void aWrongStoreChangesNothing() {
        Checks.part("a call with a wrong store changes nothing");
        for (Supplier<DocumentStores> state : STATES) {
            for (Calls.Call call : Calls.withStore()) {
                States.unchanged(call.text(), state, s -> askAll(s, call, Calls.NO_STORES));
            }
        }
    }

    private static void aWrongDocumentChangesNothing() {
        Checks.part("a call with a wrong document changes nothing");
        for (Supplier<DocumentStores> state : STATES) {
            for (int n = 0; n < 3; n++) {
                for (Calls.Call call : Calls.withDocument(n)) {
                    States.unchanged(call.text(), state, s -> askAll(s, call, Calls.NO_DOCUMENTS));
                }
            }
        }
    }

    private static void askAll(DocumentStores s, Calls.Call call, int[] wrong) {
        for (int open : wrong) {
            call.open().answer(s, open);
        }
    }

    private static void noCallThrows() {
        Checks.part("no call ever throws");
        for (int a : EDGES) {
            for (int b : EDGES) {
                for (Supplier<DocumentStores> state : STATES) {
                    Checks.due("a throw with " + a + ", " + b, throwsWith(state.get(), a, b), "");
                }
            }
        }
    }

    private static String throwsWith(DocumentStores s, int a, int b) {
        try {
            for (int c : EDGES) {
                s.leaf(a, b, c);
                s.editLeaf(a, b, c, c);
                s.delete(a, b, c);
                s.edit(a, b, c);
            }
            s.revisions();
            s.revision(a, b);
            s.knows(a, b);
            s.body(a, b);
            s.winner(a, b);
            s.leaves(a, b);
            s.conflicts(a);
            s.count(a);
            s.stamp(a, b);
            s.size(a);
            s.viewed(a, b);
            s.below(a, b);
            s.total(a);
            s.agree(a, b);
            s.copy(a, b);
            s.compact(a);
            s.purge(a, b);
            return "";
        } catch (Throwable thrown) {
            return thrown.toString();
        }
    }
}
