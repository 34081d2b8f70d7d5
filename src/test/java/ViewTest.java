/** Promises 18 to 21: size, viewed, below and total. */
public final class ViewTest {
    public static void main(String[] args) {
        ordersByValueThenNumber();
        holdsOnlyWhatExists();
        takesTheWinnersValue();
        Checks.end();
    }

    private static void ordersByValueThenNumber() {
        Checks.part("promises 18 and 19, the order");
        DocumentStores s = new DocumentStores();
        int[] xs = {7, Checks.MAX, -3, 7, 0, Checks.MIN, 7, -3};
        for (int d = 7; d >= 0; d--) {
            s.edit(0, d, xs[d]);
        }
        Checks.due("size(0)", s.size(0), 8);
        Checks.due("view", Checks.viewOf(s, 0), "5 2 7 4 0 3 6 1");
        Checks.due("size(1)", s.size(1), 0);
        s.edit(0, 5, 7);
        Checks.due("view", Checks.viewOf(s, 0), "2 7 4 0 3 5 6 1");
    }

    private static void holdsOnlyWhatExists() {
        Checks.part("promises 18 to 21, what exists");
        DocumentStores s = new DocumentStores();
        s.edit(0, 0, 4);
        s.edit(0, 1, 3);
        s.edit(0, 2, 5);
        s.delete(0, 1, 0);
        Checks.due("size(0)", s.size(0), 2);
        Checks.due("view", Checks.viewOf(s, 0), "0 2");
        Checks.due("below(0, 5)", s.below(0, 5), 1);
        Checks.due("below(0, 1)", s.below(0, 1), 0);
        Checks.due("total(0)", s.total(0), 9);
        s.edit(0, 1, 0);
        Checks.due("view", Checks.viewOf(s, 0), "1 0 2");
        s.purge(0, 0);
        Checks.due("view", Checks.viewOf(s, 0), "1 2");
        Checks.due("total(0)", s.total(0), 5);
    }

    private static void takesTheWinnersValue() {
        Checks.part("promises 18 to 21, the winner");
        DocumentStores s = new DocumentStores();
        s.edit(0, 0, 10);
        s.edit(0, 1, 15);
        s.edit(1, 0, 20);
        s.copy(1, 0);
        Checks.due("view", Checks.viewOf(s, 0), "1 0");
        Checks.due("below(0, 16)", s.below(0, 16), 1);
        Checks.due("total(0)", s.total(0), 35);
        s.delete(0, 0, 0);
        Checks.due("size(0)", s.size(0), 2);
        Checks.due("view", Checks.viewOf(s, 0), "0 1");
        Checks.due("total(0)", s.total(0), 25);
        s.delete(0, 0, 1);
        Checks.due("view", Checks.viewOf(s, 0), "1");
        Checks.due("total(0)", s.total(0), 15);
    }
}
