import java.util.function.Consumer;
import java.util.function.Supplier;

/** Objects to begin a test with, and all that can be asked of one. */
final class States {
    private static final int REVISIONS_ASKED_AT_ONCE = 40;

    private States() {
    }

    /** Eight revisions: conflicts, marks, a compacted store and a purged document. */
    static DocumentStores some() {
        DocumentStores s = new DocumentStores();
        s.edit(0, 0, 5);
        s.edit(0, 0, 6);
        s.edit(1, 0, 7);
        s.copy(1, 0);
        s.delete(0, 0, 1);
        s.edit(2, 7, 1);
        s.copy(0, 2);
        s.edit(2, 0, -4);
        s.compact(2);
        s.edit(1, 3, 8);
        s.purge(1, 3);
        s.edit(1, 0, 9);
        return s;
    }

    /** 80 revisions: a chain of document 0 in store 0, values 0 to 79; the rest is empty. */
    static DocumentStores chain() {
        DocumentStores s = new DocumentStores();
        for (int x = 0; x < 80; x++) {
            s.edit(0, 0, x);
        }
        return s;
    }

    /** 80 revisions, spread over all stores and documents, so that no neighbour is empty. */
    static DocumentStores crowded() {
        DocumentStores s = new DocumentStores();
        for (int i = 0; i < 24; i++) {
            s.edit(i % 3, i / 3, 10 * i);
        }
        s.copy(0, 1);
        s.copy(1, 2);
        for (int d = 0; d < 8; d++) {
            s.delete(2, d, 0);
        }
        for (int i = 0; i < 48; i++) {
            s.edit(i % 3, i % 8, i);
        }
        s.compact(1);
        return s;
    }

    /** Store 0 knows first revisions of document d with these values, numbered as they stand. */
    static DocumentStores fan(int d, int... values) {
        DocumentStores s = new DocumentStores();
        for (int x : values) {
            s.edit(1, d, x);
            s.copy(1, 0);
            s.purge(1, d);
        }
        return s;
    }

    /** Checks that an object after these calls can't be told from one without them. */
    static void unchanged(String calls, Supplier<DocumentStores> start,
            Consumer<DocumentStores> refused) {
        Supplier<DocumentStores> after = () -> {
            DocumentStores s = start.get();
            refused.accept(s);
            return s;
        };
        String[] got = all(after).split("\n");
        String[] want = all(start).split("\n");
        Checks.due("lines about the object after " + calls, got.length, want.length);
        for (int i = 0; i < Math.min(got.length, want.length); i++) {
            Checks.due("the object after " + calls, got[i], want[i]);
        }
    }

    /** Asks each part of a new object, as one object is there for at most 512 calls. */
    static String all(Supplier<DocumentStores> object) {
        StringBuilder text = new StringBuilder();
        int made = object.get().revisions();
        for (int r = 0; r < made; r += REVISIONS_ASKED_AT_ONCE) {
            text.append(revisionsOf(object.get(), r, Math.min(made, r + REVISIONS_ASKED_AT_ONCE)));
        }
        for (int n = 0; n < 3; n++) {
            text.append(storeOf(object.get(), n));
        }
        return text.append(later(object.get())).toString();
    }

    private static String revisionsOf(DocumentStores s, int from, int end) {
        StringBuilder text = new StringBuilder();
        for (int r = from; r < end; r++) {
            text.append("\nrevision ").append(r).append(':');
            for (int what = 0; what < 4; what++) {
                text.append(' ').append(s.revision(r, what));
            }
            for (int n = 0; n < 3; n++) {
                text.append(' ').append(s.body(n, r));
            }
        }
        return text.toString();
    }

    private static String storeOf(DocumentStores s, int n) {
        StringBuilder text = new StringBuilder("\nstore " + n + ": count " + s.count(n));
        text.append(" conflicts ").append(s.conflicts(n)).append(" total ").append(s.total(n));
        text.append(" view ").append(Checks.viewOf(s, n));
        for (int d = 0; d < 8; d++) {
            text.append(" [").append(s.winner(n, d)).append(' ').append(s.stamp(n, d));
            text.append(' ').append(Checks.leavesOf(s, n, d)).append(']');
        }
        return text.toString();
    }

    /** What later changes answer, for what no question shows. */
    private static String later(DocumentStores s) {
        StringBuilder text = new StringBuilder("\nlater:");
        for (int d = 0; d < 8; d++) {
            text.append(' ').append(s.edit(d % 3, d, 1000 + d));
            text.append(' ').append(s.delete((d + 1) % 3, d, 0));
        }
        for (int n = 0; n < 3; n++) {
            text.append(' ').append(s.copy(n, (n + 1) % 3)).append(' ').append(s.compact(n));
            text.append(' ').append(s.count(n)).append(' ').append(s.revisions());
        }
        for (int d = 0; d < 8; d++) {
            text.append(' ').append(s.purge(d % 3, d)).append(' ').append(s.edit(d % 3, d, 5));
        }
        return text.toString();
    }
}
