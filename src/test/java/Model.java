import java.util.ArrayList;
import java.util.Comparator;
import java.util.HashMap;
import java.util.HashSet;
import java.util.LinkedHashSet;
import java.util.List;
import java.util.Map;
import java.util.Set;

/** The document's words once more, with whole paths, sets and sorted lists, for ModelTest. */
final class Model {
    private record Revision(int number, int document, Revision parent, int value, boolean mark,
            List<Integer> path) {
        int generation() {
            return path.size() / 2;
        }
    }

    private static final class Store {
        final Set<Revision> known = new LinkedHashSet<>();
        final Set<Revision> bodies = new HashSet<>();
        final int[] stamps = new int[8];
        int count = 0;
    }

    private static final Comparator<Revision> ORDER =
        Comparator.comparingInt(Revision::generation).thenComparing(Model::comparePaths);

    private final List<Revision> made = new ArrayList<>();
    private final Map<List<Integer>, Revision> byDocumentAndPath = new HashMap<>();
    private final Store[] stores = {new Store(), new Store(), new Store()};

    private static int comparePaths(Revision a, Revision b) {
        for (int i = 0; i < Math.min(a.path.size(), b.path.size()); i++) {
            int order = Integer.compare(a.path.get(i), b.path.get(i));
            if (order != 0) {
                return order;
            }
        }
        return Integer.compare(a.path.size(), b.path.size());
    }

    private static boolean bad(int n) {
        return n < 0 || n > 2;
    }

    private static boolean bad(int n, int d) {
        return bad(n) || d < 0 || d > 7;
    }

    private List<Revision> knownOf(int n, int d) {
        return stores[n].known.stream().filter(r -> r.document == d).toList();
    }

    /** From the last one on. */
    private List<Revision> sortedLeaves(int n, int d) {
        List<Revision> all = new ArrayList<>(knownOf(n, d));
        List<Revision> parents = all.stream().map(Revision::parent).toList();
        all.removeAll(parents);
        all.sort(ORDER.reversed());
        return all;
    }

    private Revision winning(int n, int d) {
        List<Revision> all = sortedLeaves(n, d);
        List<Revision> living = all.stream().filter(r -> !r.mark).toList();
        List<Revision> candidates = living.isEmpty() ? all : living;
        return candidates.isEmpty() ? null : candidates.get(0);
    }

    private List<Revision> view(int n) {
        List<Revision> shown = new ArrayList<>();
        for (int d = 0; d < 8; d++) {
            Revision w = winning(n, d);
            if (w != null && !w.mark) {
                shown.add(w);
            }
        }
        shown.sort(Comparator.comparingInt(Revision::value).thenComparingInt(Revision::document));
        return shown;
    }

    private int make(int n, int d, Revision parent, int x, boolean mark) {
        List<Integer> path = new ArrayList<>(parent == null ? List.of() : parent.path);
        path.add(x);
        path.add(mark ? 1 : 0);
        List<Integer> key = new ArrayList<>(path);
        key.add(0, d);
        Revision r = byDocumentAndPath.get(key);
        if (r == null) {
            if (made.size() == 80) {
                return DocumentStores.FULL;
            }
            r = new Revision(made.size(), d, parent, x, mark, path);
            made.add(r);
            byDocumentAndPath.put(key, r);
        }
        if (stores[n].known.add(r)) {
            stores[n].bodies.add(r);
            stores[n].stamps[d] = ++stores[n].count;
        }
        return r.number;
    }

    int edit(int n, int d, int x) {
        return bad(n, d) ? DocumentStores.BAD_ARG : make(n, d, winning(n, d), x, false);
    }

    int editLeaf(int n, int d, int k, int x) {
        if (bad(n, d)) {
            return DocumentStores.BAD_ARG;
        }
        List<Revision> leaves = sortedLeaves(n, d);
        if (k < 0 || k >= leaves.size()) {
            return DocumentStores.NONE;
        }
        return make(n, d, leaves.get(k), x, false);
    }

    int delete(int n, int d, int k) {
        if (bad(n, d)) {
            return DocumentStores.BAD_ARG;
        }
        List<Revision> leaves = sortedLeaves(n, d);
        if (k < 0 || k >= leaves.size() || leaves.get(k).mark) {
            return DocumentStores.NONE;
        }
        return make(n, d, leaves.get(k), 0, true);
    }

    int copy(int n, int to) {
        if (bad(n) || bad(to) || n == to) {
            return DocumentStores.BAD_ARG;
        }
        List<Integer> documents = new ArrayList<>(List.of(0, 1, 2, 3, 4, 5, 6, 7));
        documents.sort(Comparator.comparingInt(d -> stores[n].stamps[d]));
        int copied = 0;
        for (int d : documents) {
            List<Revision> all = knownOf(n, d);
            if (!stores[to].known.containsAll(all)) {
                List<Revision> withBody = new ArrayList<>(sortedLeaves(n, d));
                withBody.retainAll(stores[n].bodies);
                stores[to].known.addAll(all);
                stores[to].bodies.addAll(withBody);
                stores[to].stamps[d] = ++stores[to].count;
                copied++;
            }
        }
        return copied;
    }

    int compact(int n) {
        if (bad(n)) {
            return DocumentStores.BAD_ARG;
        }
        int before = stores[n].bodies.size();
        Set<Revision> leaves = new HashSet<>();
        for (int d = 0; d < 8; d++) {
            leaves.addAll(sortedLeaves(n, d));
        }
        stores[n].bodies.retainAll(leaves);
        return before - stores[n].bodies.size();
    }

    int purge(int n, int d) {
        if (bad(n, d)) {
            return DocumentStores.BAD_ARG;
        }
        List<Revision> all = knownOf(n, d);
        all.forEach(stores[n].known::remove);
        all.forEach(stores[n].bodies::remove);
        stores[n].stamps[d] = 0;
        return all.isEmpty() ? DocumentStores.NONE : all.size();
    }

    int revisions() {
        return made.size();
    }

    int revision(int r, int what) {
        if (what < 0 || what > 3) {
            return DocumentStores.BAD_ARG;
        }
        if (r < 0 || r >= made.size()) {
            return DocumentStores.NONE;
        }
        Revision it = made.get(r);
        int parent = it.parent == null ? DocumentStores.NONE : it.parent.number;
        return new int[] {it.document, parent, it.generation(), it.mark ? 1 : 0}[what];
    }

    boolean knows(int n, int r) {
        return !bad(n) && r >= 0 && r < made.size() && stores[n].known.contains(made.get(r));
    }

    int body(int n, int r) {
        if (bad(n)) {
            return DocumentStores.BAD_ARG;
        }
        if (!knows(n, r)) {
            return DocumentStores.NONE;
        }
        Revision it = made.get(r);
        return stores[n].bodies.contains(it) ? it.value : DocumentStores.GONE;
    }

    int winner(int n, int d) {
        if (bad(n, d)) {
            return DocumentStores.BAD_ARG;
        }
        Revision w = winning(n, d);
        return w == null ? DocumentStores.NONE : w.number;
    }

    int leaves(int n, int d) {
        return bad(n, d) ? DocumentStores.BAD_ARG : sortedLeaves(n, d).size();
    }

    int leaf(int n, int d, int k) {
        if (bad(n, d)) {
            return DocumentStores.BAD_ARG;
        }
        List<Revision> leaves = sortedLeaves(n, d);
        return k < 0 || k >= leaves.size() ? DocumentStores.NONE : leaves.get(k).number;
    }

    int conflicts(int n) {
        if (bad(n)) {
            return DocumentStores.BAD_ARG;
        }
        int number = 0;
        for (int d = 0; d < 8; d++) {
            number += sortedLeaves(n, d).stream().filter(r -> !r.mark).count() > 1 ? 1 : 0;
        }
        return number;
    }

    int count(int n) {
        return bad(n) ? DocumentStores.BAD_ARG : stores[n].count;
    }

    int stamp(int n, int d) {
        return bad(n, d) ? DocumentStores.BAD_ARG : stores[n].stamps[d];
    }

    int size(int n) {
        return bad(n) ? DocumentStores.BAD_ARG : view(n).size();
    }

    int viewed(int n, int k) {
        if (bad(n)) {
            return DocumentStores.BAD_ARG;
        }
        List<Revision> view = view(n);
        return k < 0 || k >= view.size() ? DocumentStores.NONE : view.get(k).document;
    }

    int below(int n, int x) {
        return bad(n) ? DocumentStores.BAD_ARG
            : (int) view(n).stream().filter(r -> r.value < x).count();
    }

    int total(int n) {
        return bad(n) ? DocumentStores.BAD_ARG
            : (int) view(n).stream().mapToLong(Revision::value).sum();
    }

    boolean agree(int n, int m) {
        return !bad(n) && !bad(m) && stores[n].known.equals(stores[m].known);
    }
}
