import java.util.List;

/** Every call that takes a store or a document, with that argument left open. */
final class Calls {
    interface Open {
        int answer(DocumentStores s, int open);
    }

    /** A call, and what it answers where the open argument is out of its range. */
    record Call(String text, int refusal, Open open) {
    }

    /** Out of range, among them ints whose product with 8 or 80 wraps, or whose last bits are 0. */
    static final int[] NO_STORES = {
        -1, 3, Checks.MIN, Checks.MAX, -2, 4, 256, 65536, 1 << 28, 1 << 29
    };
    static final int[] NO_DOCUMENTS = {
        -1, 8, Checks.MIN, Checks.MAX, -2, 9, 256, 65536, 1 << 28, 1 << 29
    };

    private Calls() {
    }

    private static Call code(String text, Open open) {
        return new Call(text, Checks.BAD_ARG, open);
    }

    private static Call truth(String text, Open open) {
        return new Call(text, 0, open);
    }

    private static int number(boolean answer) {
        return answer ? 1 : 0;
    }

    /** Each with arguments that are right, and with others that would be refused as well. */
    static List<Call> withStore() {
        return List.of(
            code("edit(n, 0, 1)", (s, n) -> s.edit(n, 0, 1)),
            code("edit(n, 5, 1)", (s, n) -> s.edit(n, 5, 1)),
            code("editLeaf(n, 0, 0, 1)", (s, n) -> s.editLeaf(n, 0, 0, 1)),
            code("editLeaf(n, 0, -1, 1)", (s, n) -> s.editLeaf(n, 0, -1, 1)),
            code("delete(n, 0, 0)", (s, n) -> s.delete(n, 0, 0)),
            code("delete(n, 0, -1)", (s, n) -> s.delete(n, 0, -1)),
            code("copy(n, 0)", (s, n) -> s.copy(n, 0)),
            code("copy(n, 1)", (s, n) -> s.copy(n, 1)),
            code("copy(n, 2)", (s, n) -> s.copy(n, 2)),
            code("compact(n)", (s, n) -> s.compact(n)),
            code("purge(n, 0)", (s, n) -> s.purge(n, 0)),
            code("purge(n, 5)", (s, n) -> s.purge(n, 5)),
            truth("knows(n, 0)", (s, n) -> number(s.knows(n, 0))),
            truth("knows(n, -1)", (s, n) -> number(s.knows(n, -1))),
            code("body(n, 0)", (s, n) -> s.body(n, 0)),
            code("body(n, -1)", (s, n) -> s.body(n, -1)),
            code("body(n, 80)", (s, n) -> s.body(n, 80)),
            code("winner(n, 0)", (s, n) -> s.winner(n, 0)),
            code("winner(n, 5)", (s, n) -> s.winner(n, 5)),
            code("leaves(n, 0)", (s, n) -> s.leaves(n, 0)),
            code("leaf(n, 0, 0)", (s, n) -> s.leaf(n, 0, 0)),
            code("leaf(n, 0, -1)", (s, n) -> s.leaf(n, 0, -1)),
            code("conflicts(n)", (s, n) -> s.conflicts(n)),
            code("count(n)", (s, n) -> s.count(n)),
            code("stamp(n, 0)", (s, n) -> s.stamp(n, 0)),
            code("size(n)", (s, n) -> s.size(n)),
            code("viewed(n, 0)", (s, n) -> s.viewed(n, 0)),
            code("viewed(n, -1)", (s, n) -> s.viewed(n, -1)),
            code("below(n, MAX)", (s, n) -> s.below(n, Checks.MAX)),
            code("below(n, MIN)", (s, n) -> s.below(n, Checks.MIN)),
            code("total(n)", (s, n) -> s.total(n)),
            truth("agree(n, 0)", (s, n) -> number(s.agree(n, 0))),
            truth("agree(n, 2)", (s, n) -> number(s.agree(n, 2))));
    }

    static List<Call> withDocument(int n) {
        return List.of(
            code("edit(" + n + ", d, 1)", (s, d) -> s.edit(n, d, 1)),
            code("editLeaf(" + n + ", d, 0, 1)", (s, d) -> s.editLeaf(n, d, 0, 1)),
            code("editLeaf(" + n + ", d, -1, 1)", (s, d) -> s.editLeaf(n, d, -1, 1)),
            code("delete(" + n + ", d, 0)", (s, d) -> s.delete(n, d, 0)),
            code("delete(" + n + ", d, -1)", (s, d) -> s.delete(n, d, -1)),
            code("purge(" + n + ", d)", (s, d) -> s.purge(n, d)),
            code("winner(" + n + ", d)", (s, d) -> s.winner(n, d)),
            code("leaves(" + n + ", d)", (s, d) -> s.leaves(n, d)),
            code("leaf(" + n + ", d, 0)", (s, d) -> s.leaf(n, d, 0)),
            code("leaf(" + n + ", d, -1)", (s, d) -> s.leaf(n, d, -1)),
            code("stamp(" + n + ", d)", (s, d) -> s.stamp(n, d)));
    }
}
