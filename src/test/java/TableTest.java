/** Promises 11 to 16: entry, key, cell, drill, along, total. */
public final class TableTest {
    public static void main(String[] args) {
        entry();
        key();
        bins();
        cellAndDrill();
        along();
        total();
        topAndRest();
        topOfMissing();
        goneRowsLeaveNothing();
        Due.end("TableTest");
    }

    private static CrossTable sample(String plan) {
        CrossTable x = Due.planned(plan);
        Due.fill(x, 2, 4, 30, 0, 1, 100, 2, 1, 30, 3, 0, 99, 0, 4, 0);
        return x;
    }

    private static void entry() {
        CrossTable x = sample("absum.12");
        int[][] want = {{2, 4, 30, 99, 4}, {0, 1, 100, 99, 1}, {2, 1, 30, 99, 1}, {3, 0, 99, 3, 0}, {0, 4, 0, 99, 4}};
        for (int e = 0; e < want.length; e++) {
            for (int what = 0; what < 5; what++) {
                Due.is("entry(" + e + ", " + what + ")", x.entry(e, what), want[e][what]);
            }
        }
        Due.is("entry(5, 0)", x.entry(5, 0), Due.UNKNOWN);
        Due.is("entry(-1, 0)", x.entry(-1, 0), Due.UNKNOWN);
        Due.is("entry(5, 9)", x.entry(5, 9), Due.UNKNOWN);
        Due.is("entry(0, -1)", x.entry(0, -1), Due.OUTSIDE);
        Due.is("entry(0, 5)", x.entry(0, 5), Due.OUTSIDE);
        CrossTable one = sample("v-sum.02");
        Due.is("bin", one.entry(0, 3), 3);
        Due.is("bin of none", one.entry(1, 3), 20);
        Due.is("the one column", one.entry(3, 4), 0);
    }

    private static void key() {
        CrossTable x = sample("bvcount.04");
        keys(x, 0, 0, 1, 4);
        keys(x, 1, 0, 1, 4, 20);
        Due.is("key(2, 0)", x.key(2, 0), Due.OUTSIDE);
        Due.is("key(-1, 0)", x.key(-1, 0), Due.OUTSIDE);
        Due.is("key(2, -1)", x.key(2, -1), Due.OUTSIDE);
        CrossTable one = Due.planned("a-count.01");
        Due.is("no column of no entries", one.key(1, 0), Due.NONE);
        one.add(3, 3, 3);
        keys(one, 0, 3);
        keys(one, 1, 0);
    }

    private static void keys(CrossTable x, int axis, int... want) {
        for (int i = 0; i < want.length; i++) {
            Due.is("key(" + axis + ", " + i + ")", x.key(axis, i), want[i]);
        }
        Due.is("key behind", x.key(axis, want.length), Due.NONE);
        Due.is("key before", x.key(axis, -1), Due.NONE);
        Due.is("key far behind", x.key(axis, Integer.MAX_VALUE), Due.NONE);
        Due.is("key far before", x.key(axis, Integer.MIN_VALUE), Due.NONE);
    }

    private static void bins() {
        for (int w = 1; w <= 9; w++) {
            CrossTable x = Due.planned("vacount.0" + w);
            x.add(0, 0, 0);
            for (int amount = 0; amount <= 100; amount++) {
                x.change(0, amount);
                int want = amount == 100 ? 20 : amount / (5 * w);
                Due.is("bin of " + amount + " by " + w, x.entry(0, 3), want);
                Due.is("row of " + amount + " by " + w, x.key(0, 0), want);
            }
        }
    }

    private static void cellAndDrill() {
        CrossTable x = sample("abmost.01");
        Due.is("cell(2, 1)", x.cell(2, 1), 30);
        Due.is("drill(2, 1)", x.drill(2, 1), 4);
        Due.is("cell without an amount", x.cell(0, 1), Due.NONE);
        Due.is("its drill", x.drill(0, 1), 2);
        Due.is("empty cell", x.cell(3, 1), Due.NONE);
        Due.is("its drill", x.drill(3, 1), 0);
        Due.is("no such row", x.cell(1, 1), Due.NONE);
        Due.is("no such column", x.cell(2, 3), Due.NONE);
        Due.is("no rest", x.cell(99, 1), Due.NONE);
        Due.is("wild keys", x.cell(Integer.MIN_VALUE, Integer.MAX_VALUE), Due.NONE);
        Due.is("wild drill", x.drill(Integer.MAX_VALUE, Integer.MIN_VALUE), 0);
        x.drop(0);
        Due.is("drill when one is gone", x.drill(2, 1), 2);
        CrossTable full = Due.planned("a-kinds.01");
        for (int i = 0; i < 16; i++) {
            full.add(1, i % 5, i / 3);
        }
        Due.is("drill of all", full.drill(1, 0), 0xffff);
        Due.is("kinds of all", full.cell(1, 0), 6);
    }

    private static void along() {
        CrossTable x = sample("absum.01");
        Due.is("row 0", x.along(0, 0), 0);
        Due.is("row 1", x.along(0, 1), Due.NONE);
        Due.is("row 2", x.along(0, 2), 60);
        Due.is("column 1", x.along(1, 1), 30);
        Due.is("column 3", x.along(1, 3), Due.NONE);
        Due.is("row -9", x.along(0, -9), Due.NONE);
        Due.is("axis 2", x.along(2, 0), Due.OUTSIDE);
        Due.is("axis -1", x.along(-1, 0), Due.OUTSIDE);
        CrossTable top = sample("absum.11");
        Due.is("top row", top.along(0, 3), 99);
        Due.is("rest", top.along(0, 99), 60);
        Due.is("a row of the rest", top.along(0, 2), Due.NONE);
        Due.is("columns have no rest", top.along(1, 99), Due.NONE);
        Due.is("columns are all", top.along(1, 4), 30);
    }

    private static void total() {
        String[] measures = {"count", "sum", "most", "least", "kinds"};
        int[] want = {5, 159, 99, 0, 3};
        int[] ofMissing = {2, 0, Due.NONE, Due.NONE, 0};
        for (int i = 0; i < measures.length; i++) {
            CrossTable x = Due.planned("ab" + measures[i] + ".01");
            Due.is(measures[i] + " of nothing", x.total(), Due.NONE);
            Due.fill(x, 0, 0, 100, 1, 0, 100);
            Due.is(measures[i] + " without amounts", x.total(), ofMissing[i]);
            Due.is(measures[i] + " total", sample("ab" + measures[i] + ".01").total(), want[i]);
            Due.is(measures[i] + " total has the rest too", sample("ab" + measures[i] + ".11").total(), want[i]);
        }
        CrossTable far = Due.planned("abkinds.01");
        Due.fill(far, 0, 0, 0, 0, 0, 64, 0, 0, 63, 0, 0, 99, 0, 0, 35, 0, 0, 99, 0, 0, 0);
        Due.is("kinds that lie 64 apart", far.total(), 5);
    }

    private static void topAndRest() {
        CrossTable x = Due.planned("bacount.21");
        Due.fill(x, 0, 4, 1, 0, 4, 1, 1, 3, 1, 2, 2, 1);
        keys(x, 0, 2, 4, 99);
        Due.is("rest", x.along(0, 99), 1);
        Due.is("cell of the rest", x.drill(99, 1), 4);
        x.drop(3);
        keys(x, 0, 3, 4);
        Due.is("no more than two groups: no rest", x.along(0, 99), Due.NONE);
        Due.is("of like ones the lesser key", lesserKeyFirst(), 0);
        CrossTable four = Due.planned("basum.41");
        Due.fill(four, 0, 0, 9, 0, 1, 8, 0, 2, 7, 0, 3, 6);
        keys(four, 0, 0, 1, 2, 3);
        four.add(0, 4, 10);
        keys(four, 0, 0, 1, 2, 4, 99);
        Due.is("rest is the least group", four.along(0, 99), 6);
        CrossTable least = Due.planned("abmost.11");
        Due.fill(least, 0, 0, 1, 1, 0, 50, 2, 0, 49, 3, 0, 100);
        keys(least, 0, 1, 99);
        Due.is("most of the rest", least.along(0, 99), 49);
        Due.is("entries of the rest", least.drill(99, 0), 13);
    }

    private static int lesserKeyFirst() {
        CrossTable x = Due.planned("abcount.11");
        Due.fill(x, 3, 0, 1, 1, 0, 1, 0, 0, 1);
        return x.key(0, 0);
    }

    private static void topOfMissing() {
        CrossTable x = Due.planned("abmost.11");
        Due.fill(x, 0, 0, 100, 1, 0, 100, 2, 0, 0);
        keys(x, 0, 2, 99);
        Due.is("rest without amounts", x.along(0, 99), Due.NONE);
        Due.is("its entries", x.drill(99, 0), 3);
        x.change(2, 100);
        keys(x, 0, 0, 99);
    }

    private static void goneRowsLeaveNothing() {
        CrossTable x = Due.planned("abcount.01");
        Due.fill(x, 1, 1, 0, 2, 2, 0, 3, 3, 0);
        Due.is("cells", x.count(4), 3);
        x.drop(2);
        Due.is("a row that is gone", x.along(0, 3), Due.NONE);
        Due.is("a column that is gone", x.along(1, 3), Due.NONE);
        Due.is("its cell", x.drill(3, 3), 0);
        Due.is("cells", x.count(4), 2);
        keys(x, 0, 1, 2);
        keys(x, 1, 1, 2);
    }
}
