/** Promises 18 to 21: size, viewed, below and total. */
public final class ViewTest {
    public static void main(String[] args) {
        ordersByValueThenNumber();
        holdsOnlyWhatExists();
        takesTheWinnersValue();
        viewedRefusals();
        belowIsStrict();
        totalWraps();
        ranges();
        Checks.end();
    }

    private static void ordersByValueThenNumber() {
        Checks.part("promises 18 and 19, the order");
        DocumentStores s = new DocumentStores();
        int[] xs = {7, Checks.MAX, -3, 7, 0, Checks.MIN, 7, -3};
        for (int d = 7; d >= 0; d--) {
            s.edit(0, d, xs[d]);
        }
        Checks.due("size(0)", s.size(0), 8);
        Checks.due("view", Checks.viewOf(s, 0), "5 2 7 4 0 3 6 1");
        Checks.due("size(1)", s.size(1), 0);
        s.edit(0, 5, 7);
        Checks.due("view", Checks.viewOf(s, 0), "2 7 4 0 3 5 6 1");
    }

    private static void holdsOnlyWhatExists() {
        Checks.part("promises 18 to 21, what exists");
        DocumentStores s = new DocumentStores();
        s.edit(0, 0, 4);
        s.edit(0, 1, 3);
        s.edit(0, 2, 5);
        s.delete(0, 1, 0);
        Checks.due("size(0)", s.size(0), 2);
        Checks.due("view", Checks.viewOf(s, 0), "0 2");
        Checks.due("below(0, 5)", s.below(0, 5), 1);
        Checks.due("below(0, 1)", s.below(0, 1), 0);
        Checks.due("total(0)", s.total(0), 9);
        s.edit(0, 1, 0);
        Checks.due("view", Checks.viewOf(s, 0), "1 0 2");
        s.purge(0, 0);
        Checks.due("view", Checks.viewOf(s, 0), "1 2");
        Checks.due("total(0)", s.total(0), 5);
    }

    private static void takesTheWinnersValue() {
        Checks.part("promises 18 to 21, the winner");
        DocumentStores s = new DocumentStores();
        s.edit(0, 0, 10);
        s.edit(0, 1, 15);
        s.edit(1, 0, 20);
        s.copy(1, 0);
        Checks.due("view", Checks.viewOf(s, 0), "1 0");
        Checks.due("below(0, 16)", s.below(0, 16), 1);
        Checks.due("total(0)", s.total(0), 35);
        s.delete(0, 0, 0);
        Checks.due("size(0)", s.size(0), 2);
        Checks.due("view", Checks.viewOf(s, 0), "0 1");
        Checks.due("total(0)", s.total(0), 25);
        s.delete(0, 0, 1);
        Checks.due("view", Checks.viewOf(s, 0), "1");
        Checks.due("total(0)", s.total(0), 15);
    }

    private static void viewedRefusals() {
        Checks.part("promise 19, NONE");
        DocumentStores s = new DocumentStores();
        s.edit(0, 0, 4);
        for (int k : new int[] {-1, 1, 8, Checks.MIN, Checks.MAX}) {
            Checks.due("viewed(0, " + k + ")", s.viewed(0, k), Checks.NONE);
            Checks.due("viewed(1, " + k + ")", s.viewed(1, k), Checks.NONE);
        }
        Checks.due("viewed(0, 0)", s.viewed(0, 0), 0);
        Checks.due("viewed(1, 0)", s.viewed(1, 0), Checks.NONE);
    }

    private static void belowIsStrict() {
        Checks.part("promise 20");
        DocumentStores s = new DocumentStores();
        s.edit(0, 0, Checks.MIN);
        s.edit(0, 1, 0);
        s.edit(0, 2, Checks.MAX);
        Checks.due("below(0, MIN)", s.below(0, Checks.MIN), 0);
        Checks.due("below(0, MIN + 1)", s.below(0, Checks.MIN + 1), 1);
        Checks.due("below(0, 0)", s.below(0, 0), 1);
        Checks.due("below(0, 1)", s.below(0, 1), 2);
        Checks.due("below(0, MAX)", s.below(0, Checks.MAX), 2);
        Checks.due("below(2, MAX)", s.below(2, Checks.MAX), 0);
    }

    private static void totalWraps() {
        Checks.part("promise 21");
        DocumentStores s = new DocumentStores();
        s.edit(0, 0, Checks.MAX);
        Checks.due("total(0)", s.total(0), Checks.MAX);
        s.edit(0, 5, 1);
        Checks.due("total(0)", s.total(0), Checks.MIN);
        s.edit(0, 7, Checks.MIN);
        Checks.due("total(0)", s.total(0), 0);
        Checks.due("total(1)", s.total(1), 0);
        DocumentStores t = new DocumentStores();
        t.edit(2, 4, Checks.BAD_ARG);
        Checks.due("total(2), a value like a code", t.total(2), Checks.BAD_ARG);
    }

    private static void ranges() {
        Checks.part("promises 18 to 21, BAD_ARG");
        DocumentStores s = Checks.full();
        for (int n : Checks.NO_STORES) {
            Checks.due("size(" + n + ")", s.size(n), Checks.BAD_ARG);
            Checks.due("viewed(" + n + ", 0)", s.viewed(n, 0), Checks.BAD_ARG);
            Checks.due("viewed(" + n + ", -1)", s.viewed(n, -1), Checks.BAD_ARG);
            Checks.due("below(" + n + ", 1)", s.below(n, 1), Checks.BAD_ARG);
            Checks.due("total(" + n + ")", s.total(n), Checks.BAD_ARG);
        }
    }
}
