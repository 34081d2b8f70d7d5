/**
 * Documents with trees of revisions in three stores that copy from each other: which revision
 * wins, what is in conflict, what changed when, ordered views, and what is left after compacting.
 */
public final class DocumentStores {
    public static final int BAD_ARG = -1000000001;
    public static final int FULL = -1000000002;
    public static final int NONE = -1000000003;
    public static final int GONE = -1000000004;

    private static final int STORES = 3;
    private static final int DOCUMENTS = 8;
    private static final int REVISIONS = 80;
    private static final int STORE_DOCUMENTS = STORES * DOCUMENTS;
    private static final int STORE_REVISIONS = STORES * REVISIONS;

    // A revision is the same one in every store, so what it is stands here once for all stores.
    private final int[] documents = new int[REVISIONS];
    private final int[] parents = new int[REVISIONS]; // NONE for a first revision
    private final int[] values = new int[REVISIONS];
    private final int[] generations = new int[REVISIONS];
    private final boolean[] marks = new boolean[REVISIONS];
    private int made = 0;

    // What store n has of revision r stands at n * REVISIONS + r.
    private final boolean[] known = new boolean[STORE_REVISIONS];
    private final boolean[] bodies = new boolean[STORE_REVISIONS];

    // The stamp of document d in store n stands at n * DOCUMENTS + d.
    private final int[] stamps = new int[STORE_DOCUMENTS];
    private final int[] counts = new int[STORES];

    public DocumentStores() {
    }

    // ---- calls that change a store ----

    public int edit(int n, int d, int x) {
        if (!isStore(n) || !isDocument(d)) {
            return BAD_ARG;
        }
        int parent = winnerOf(n, d);
        return make(n, d, parent, x, false);
    }

    public int editLeaf(int n, int d, int k, int x) {
        if (!isStore(n) || !isDocument(d)) {
            return BAD_ARG;
        }
        int parent = leafAt(n, d, k);
        if (parent == NONE) {
            return NONE;
        }
        return make(n, d, parent, x, false);
    }

    public int delete(int n, int d, int k) {
        if (!isStore(n) || !isDocument(d)) {
            return BAD_ARG;
        }
        int parent = leafAt(n, d, k);
        if (parent == NONE || marks[parent]) {
            return NONE;
        }
        return make(n, d, parent, 0, true);
    }

    public int copy(int n, int to) {
        if (!isStore(n) || !isStore(to) || n == to) {
            return BAD_ARG;
        }
        int copied = 0;
        int last = 0;
        for (int turn = 0; turn < DOCUMENTS; turn++) {
            int d = nextStamped(n, last);
            if (d == NONE) {
                break;
            }
            last = stamps[n * DOCUMENTS + d];
            if (hasNewsFor(n, to, d)) {
                copyDocument(n, to, d);
                copied++;
            }
        }
        return copied;
    }

    public int compact(int n) {
        if (!isStore(n)) {
            return BAD_ARG;
        }
        int dropped = 0;
        for (int r = 0; r < made; r++) {
            if (bodies[n * REVISIONS + r] && !isLeaf(n, r)) {
                bodies[n * REVISIONS + r] = false;
                dropped++;
            }
        }
        return dropped;
    }

    public int purge(int n, int d) {
        if (!isStore(n) || !isDocument(d)) {
            return BAD_ARG;
        }
        int forgotten = 0;
        for (int r = 0; r < made; r++) {
            if (documents[r] == d && known[n * REVISIONS + r]) {
                known[n * REVISIONS + r] = false;
                bodies[n * REVISIONS + r] = false;
                forgotten++;
            }
        }
        if (forgotten == 0) {
            return NONE;
        }
        stamps[n * DOCUMENTS + d] = 0;
        return forgotten;
    }

    // ---- questions about revisions ----

    public int revisions() {
        return made;
    }

    public int revision(int r, int what) {
        if (what < 0 || what > 3) {
            return BAD_ARG;
        }
        if (!isMade(r)) {
            return NONE;
        }
        switch (what) {
            case 0:
                return documents[r];
            case 1:
                return parents[r];
            case 2:
                return generations[r];
            default:
                return marks[r] ? 1 : 0;
        }
    }

    public boolean knows(int n, int r) {
        return isStore(n) && isMade(r) && known[n * REVISIONS + r];
    }

    public int body(int n, int r) {
        if (!isStore(n)) {
            return BAD_ARG;
        }
        if (!isMade(r) || !known[n * REVISIONS + r]) {
            return NONE;
        }
        return bodies[n * REVISIONS + r] ? values[r] : GONE;
    }

    // ---- questions about a document in a store ----

    public int winner(int n, int d) {
        if (!isStore(n) || !isDocument(d)) {
            return BAD_ARG;
        }
        return winnerOf(n, d);
    }

    public int leaves(int n, int d) {
        if (!isStore(n) || !isDocument(d)) {
            return BAD_ARG;
        }
        int number = 0;
        for (int r = 0; r < made; r++) {
            if (isLeafOf(n, d, r)) {
                number++;
            }
        }
        return number;
    }

    public int leaf(int n, int d, int k) {
        if (!isStore(n) || !isDocument(d)) {
            return BAD_ARG;
        }
        return leafAt(n, d, k);
    }

    public int stamp(int n, int d) {
        if (!isStore(n) || !isDocument(d)) {
            return BAD_ARG;
        }
        return stamps[n * DOCUMENTS + d];
    }

    // ---- questions about a store ----

    public int conflicts(int n) {
        if (!isStore(n)) {
            return BAD_ARG;
        }
        int number = 0;
        for (int d = 0; d < DOCUMENTS; d++) {
            if (isInConflict(n, d)) {
                number++;
            }
        }
        return number;
    }

    public int count(int n) {
        if (!isStore(n)) {
            return BAD_ARG;
        }
        return counts[n];
    }

    public boolean agree(int n, int m) {
        if (!isStore(n) || !isStore(m)) {
            return false;
        }
        for (int r = 0; r < made; r++) {
            if (known[n * REVISIONS + r] != known[m * REVISIONS + r]) {
                return false;
            }
        }
        return true;
    }

    // ---- questions about the view of a store ----

    public int size(int n) {
        if (!isStore(n)) {
            return BAD_ARG;
        }
        int number = 0;
        for (int d = 0; d < DOCUMENTS; d++) {
            if (winnerInView(n, d) != NONE) {
                number++;
            }
        }
        return number;
    }

    public int viewed(int n, int k) {
        if (!isStore(n)) {
            return BAD_ARG;
        }
        for (int d = 0; d < DOCUMENTS; d++) {
            int w = winnerInView(n, d);
            if (w != NONE && placeInView(n, d, values[w]) == k) {
                return d;
            }
        }
        return NONE;
    }

    public int below(int n, int x) {
        if (!isStore(n)) {
            return BAD_ARG;
        }
        int number = 0;
        for (int d = 0; d < DOCUMENTS; d++) {
            int w = winnerInView(n, d);
            if (w != NONE && values[w] < x) {
                number++;
            }
        }
        return number;
    }

    public int total(int n) {
        if (!isStore(n)) {
            return BAD_ARG;
        }
        int sum = 0;
        for (int d = 0; d < DOCUMENTS; d++) {
            int w = winnerInView(n, d);
            if (w != NONE) {
                sum += values[w];
            }
        }
        return sum;
    }

    // ---- ranges ----

    private static boolean isStore(int n) {
        return n >= 0 && n < STORES;
    }

    private static boolean isDocument(int d) {
        return d >= 0 && d < DOCUMENTS;
    }

    private boolean isMade(int r) {
        return r >= 0 && r < made;
    }

    // ---- making revisions and coming to know them ----

    private int make(int n, int d, int parent, int x, boolean mark) {
        int r = find(d, parent, x, mark);
        if (r == NONE) {
            if (made >= REVISIONS) {
                return FULL;
            }
            r = add(d, parent, x, mark);
        }
        if (!known[n * REVISIONS + r]) {
            known[n * REVISIONS + r] = true;
            bodies[n * REVISIONS + r] = true;
            giveStamp(n, d);
        }
        return r;
    }

    private int find(int d, int parent, int x, boolean mark) {
        for (int r = 0; r < made; r++) {
            if (documents[r] == d && parents[r] == parent && values[r] == x && marks[r] == mark) {
                return r;
            }
        }
        return NONE;
    }

    private int add(int d, int parent, int x, boolean mark) {
        int r = made;
        documents[r] = d;
        parents[r] = parent;
        values[r] = x;
        generations[r] = parent == NONE ? 1 : generations[parent] + 1;
        marks[r] = mark;
        made++;
        return r;
    }

    private void giveStamp(int n, int d) {
        counts[n]++;
        stamps[n * DOCUMENTS + d] = counts[n];
    }

    // ---- copying ----

    private int nextStamped(int n, int last) {
        int next = NONE;
        int least = 0;
        for (int d = 0; d < DOCUMENTS; d++) {
            int s = stamps[n * DOCUMENTS + d];
            if (s > last && (next == NONE || s < least)) {
                next = d;
                least = s;
            }
        }
        return next;
    }

    private boolean hasNewsFor(int n, int to, int d) {
        for (int r = 0; r < made; r++) {
            if (documents[r] == d && known[n * REVISIONS + r] && !known[to * REVISIONS + r]) {
                return true;
            }
        }
        return false;
    }

    private void copyDocument(int n, int to, int d) {
        for (int r = 0; r < made; r++) {
            if (documents[r] == d && known[n * REVISIONS + r]) {
                known[to * REVISIONS + r] = true;
                // A body that store to has already stays, also where n has none to give.
                if (bodies[n * REVISIONS + r] && isLeaf(n, r)) {
                    bodies[to * REVISIONS + r] = true;
                }
            }
        }
        giveStamp(to, d);
    }

    // ---- leaves and their order ----

    private boolean isLeaf(int n, int r) {
        if (!known[n * REVISIONS + r]) {
            return false;
        }
        // A child is always made after its parent, so it has a greater number.
        for (int child = r + 1; child < made; child++) {
            if (parents[child] == r && known[n * REVISIONS + child]) {
                return false;
            }
        }
        return true;
    }

    private boolean isLeafOf(int n, int d, int r) {
        return documents[r] == d && isLeaf(n, r);
    }

    private int leafAt(int n, int d, int k) {
        for (int r = 0; r < made; r++) {
            if (isLeafOf(n, d, r) && laterLeaves(n, d, r) == k) {
                return r;
            }
        }
        return NONE;
    }

    private int laterLeaves(int n, int d, int leaf) {
        int number = 0;
        for (int r = 0; r < made; r++) {
            if (isLeafOf(n, d, r) && isLater(r, leaf)) {
                number++;
            }
        }
        return number;
    }

    private boolean isLater(int a, int b) {
        if (generations[a] != generations[b]) {
            return generations[a] > generations[b];
        }
        // Two paths of one length differ first right below the last ancestor that they share, so
        // the paths themselves need not be kept.
        int left = a;
        int right = b;
        for (int g = generations[a]; g > 1 && parents[left] != parents[right]; g--) {
            left = parents[left];
            right = parents[right];
        }
        if (values[left] != values[right]) {
            return values[left] > values[right];
        }
        return marks[left] && !marks[right];
    }

    // ---- winners, conflicts and the view ----

    private int winnerOf(int n, int d) {
        int best = NONE;
        for (int r = 0; r < made; r++) {
            if (isLeafOf(n, d, r) && (best == NONE || winsOver(r, best))) {
                best = r;
            }
        }
        return best;
    }

    private boolean winsOver(int a, int b) {
        if (marks[a] != marks[b]) {
            return marks[b];
        }
        return isLater(a, b);
    }

    private boolean isInConflict(int n, int d) {
        int living = 0;
        for (int r = 0; r < made; r++) {
            if (!marks[r] && isLeafOf(n, d, r)) {
                living++;
            }
        }
        return living >= 2;
    }

    private int winnerInView(int n, int d) {
        int w = winnerOf(n, d);
        if (w == NONE || marks[w]) {
            return NONE;
        }
        return w;
    }

    private int placeInView(int n, int d, int value) {
        int place = 0;
        for (int other = 0; other < DOCUMENTS; other++) {
            int w = winnerInView(n, other);
            if (w != NONE && (values[w] < value || values[w] == value && other < d)) {
                place++;
            }
        }
        return place;
    }
}
