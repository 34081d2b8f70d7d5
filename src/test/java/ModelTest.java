/** All promises: long runs of mixed calls, the same every time, each answer compared with Model's. */
public final class ModelTest {
    private static final int RUNS = 1500;
    private static final int CALLS = 512;
    private static final int[] VALUES = {
        0, 0, 1, 1, 2, 3, -1, -2, Integer.MIN_VALUE, Integer.MAX_VALUE, DocumentStores.NONE
    };
    private static final int[] OUT_OF_RANGE = {-1, 3, 8, 80, Integer.MIN_VALUE, Integer.MAX_VALUE};

    private long seed;
    private final int documents;
    private final int changes;
    private final DocumentStores program = new DocumentStores();
    private final Model model = new Model();

    /** Few documents make deep trees with many leaves, few changes leave room for questions. */
    private ModelTest(int run) {
        seed = run * 7919L + 1;
        documents = new int[] {1, 2, 3, 8}[run % 4];
        changes = new int[] {30, 50, 80}[run / 4 % 3];
    }

    public static void main(String[] args) {
        for (int run = 0; run < RUNS; run++) {
            Checks.part("run " + run);
            ModelTest test = new ModelTest(run);
            for (int i = 0; i < CALLS; i++) {
                if (test.next(100) < test.changes) {
                    test.change();
                } else {
                    test.ask();
                }
            }
        }
        Checks.end();
    }

    private int next(int bound) {
        seed = seed * 6364136223846793005L + 1442695040888963407L;
        return (int) ((seed >>> 33) % bound);
    }

    private int mostlyBelow(int bound) {
        return next(40) == 0 ? OUT_OF_RANGE[next(OUT_OF_RANGE.length)] : next(bound);
    }

    private int value() {
        return VALUES[next(VALUES.length)];
    }

    private void change() {
        int n = mostlyBelow(3);
        int d = mostlyBelow(documents);
        int k = mostlyBelow(3);
        int x = value();
        int kind = next(20);
        if (kind < 6) {
            due("edit", program.edit(n, d, x), model.edit(n, d, x), n, d, x);
        } else if (kind < 11) {
            due("editLeaf", program.editLeaf(n, d, k, x), model.editLeaf(n, d, k, x), n, d, k, x);
        } else if (kind < 14) {
            due("delete", program.delete(n, d, k), model.delete(n, d, k), n, d, k);
        } else if (kind < 18) {
            int to = mostlyBelow(3);
            due("copy", program.copy(n, to), model.copy(n, to), n, to);
        } else if (kind < 19) {
            due("compact", program.compact(n), model.compact(n), n);
        } else {
            due("purge", program.purge(n, d), model.purge(n, d), n, d);
        }
    }

    private void ask() {
        int n = mostlyBelow(3);
        int d = mostlyBelow(documents);
        int k = mostlyBelow(4);
        int r = mostlyBelow(81);
        int x = value();
        switch (next(15)) {
            case 0 -> due("revisions", program.revisions(), model.revisions());
            case 1 -> due("revision", program.revision(r, k), model.revision(r, k), r, k);
            case 2 -> due("knows", program.knows(n, r) ? 1 : 0, model.knows(n, r) ? 1 : 0, n, r);
            case 3 -> due("body", program.body(n, r), model.body(n, r), n, r);
            case 4 -> due("winner", program.winner(n, d), model.winner(n, d), n, d);
            case 5 -> due("leaves", program.leaves(n, d), model.leaves(n, d), n, d);
            case 6 -> due("leaf", program.leaf(n, d, k), model.leaf(n, d, k), n, d, k);
            case 7 -> due("conflicts", program.conflicts(n), model.conflicts(n), n);
            case 8 -> due("count", program.count(n), model.count(n), n);
            case 9 -> due("stamp", program.stamp(n, d), model.stamp(n, d), n, d);
            case 10 -> due("size", program.size(n), model.size(n), n);
            case 11 -> due("viewed", program.viewed(n, k), model.viewed(n, k), n, k);
            case 12 -> due("below", program.below(n, x), model.below(n, x), n, x);
            case 13 -> due("total", program.total(n), model.total(n), n);
            default -> due("agree", program.agree(n, k) ? 1 : 0, model.agree(n, k) ? 1 : 0, n, k);
        }
    }

    private static void due(String name, int got, int want, int... arguments) {
        if (got == want) {
            Checks.right();
        } else {
            Checks.due(name + java.util.Arrays.toString(arguments), got, want);
        }
    }
}
