/** The edges of KEY, BIN, MEASURE, GROUPS, THE REST, COLUMNS and CELL, and of promises 11 to 16. */
public final class TableEdgesTest {
    private static final String[] WORDS = {"count", "sum", "most", "least", "kinds"};
    private static final int[] NO_KEYS = {Integer.MIN_VALUE, -9, -1, 21, 98, 100, Integer.MAX_VALUE};

    public static void main(String[] args) {
        bins();
        binOfTheMissing();
        measures();
        measureOfNoEntries();
        noMoreThanN();
        moreThanN();
        noneIsLast();
        lesserKeyFirst();
        restIsOneRow();
        rowsStandByKeys();
        columns();
        oneColumnForAll();
        cells();
        entry();
        entryRefuses();
        key();
        cellOfNothing();
        drill();
        along();
        total();
        Due.end("TableEdgesTest");
    }

    private static void bins() {
        Due.sentence(0, "KEY of an ENTRY by a FIELD: TOWN; WARE; of AMOUNT the BIN: AMOUNT by 5 w (cut), 20 if there is none.");
        int[] binOf99 = {19, 9, 6, 4, 3, 3, 2, 2, 2};
        for (int w = 1; w <= 9; w++) {
            CrossTable x = Due.planned("v-sum.0" + w);
            Due.fill(x, 3, 4, 0, 3, 4, 5 * w - 1, 3, 4, 5 * w, 3, 4, 10 * w - 1, 3, 4, 10 * w, 3, 4, 99, 3, 4, 100);
            int[] want = {0, 0, 1, 1, 2, binOf99[w - 1], 20};
            for (int i = 0; i < want.length; i++) {
                Due.is("w " + w + ", bin of entry " + i, x.entry(i, 3), want[i]);
            }
        }
        CrossTable x = Due.planned("absum.09");
        x.add(3, 4, 99);
        Due.is("by TOWN", x.entry(0, 3), 3);
        Due.is("by WARE", x.entry(0, 4), 4);
    }

    private static void binOfTheMissing() {
        CrossTable x = Due.planned("avcount.01");
        Due.fill(x, 0, 0, 100, 0, 0, 99, 0, 0, 94, 0, 0, 100);
        Due.keysAre("the missing have one of their own", x, 1, 18, 19, 20);
        Due.is("both are in it", x.drill(0, 20), 9);
        x.change(0, 99);
        Due.is("one is not missing now", x.drill(0, 20), 8);
        Due.is("it is in another bin", x.drill(0, 19), 3);
    }

    private static void measuresAre(String of, int[] want, int... amounts) {
        for (int i = 0; i < WORDS.length; i++) {
            CrossTable x = Due.planned("ab" + WORDS[i] + ".01");
            for (int amount : amounts) {
                x.add(2, 3, amount);
            }
            String call = WORDS[i] + " of " + of;
            Due.is(call + ", total", x.total(), want[i]);
            Due.is(call + ", row", x.along(0, 2), want[i]);
            Due.is(call + ", column", x.along(1, 3), want[i]);
            Due.is(call + ", cell", x.cell(2, 3), want[i]);
        }
    }

    private static void measures() {
        Due.sentence(0, "MEASURE of some ENTRIES: count: how many; sum: of AMOUNTS that there are (0, if there are none); "
                + "most, least: the greatest, the least AMOUNT that there is (none: NONE); kinds: how many unlike AMOUNTS there are.");
        measuresAre("one missing", new int[] {1, 0, Due.NONE, Due.NONE, 0}, 100);
        measuresAre("three missing", new int[] {3, 0, Due.NONE, Due.NONE, 0}, 100, 100, 100);
        measuresAre("a zero", new int[] {1, 0, 0, 0, 1}, 0);
        measuresAre("a zero and a missing", new int[] {2, 0, 0, 0, 1}, 0, 100);
        measuresAre("a missing and 99", new int[] {2, 99, 99, 99, 1}, 100, 99);
        measuresAre("the greatest and the least", new int[] {3, 99, 99, 0, 2}, 99, 0, 0);
        measuresAre("sixteen like ones", new int[] {16, 1584, 99, 99, 1},
                99, 99, 99, 99, 99, 99, 99, 99, 99, 99, 99, 99, 99, 99, 99, 99);
        measuresAre("sixteen unlike ones", new int[] {16, 780, 99, 0, 16},
                0, 1, 2, 31, 32, 33, 35, 36, 62, 63, 64, 65, 66, 95, 96, 99);
    }

    private static void measureOfNoEntries() {
        Due.sentence(0, "Of no ENTRIES at all: NONE.");
        measuresAre("nothing", new int[] {Due.NONE, Due.NONE, Due.NONE, Due.NONE, Due.NONE});
        for (String word : WORDS) {
            CrossTable x = Due.planned("ab" + word + ".01");
            x.add(2, 3, 50);
            x.drop(0);
            Due.is(word + " when all are gone", x.total(), Due.NONE);
            Due.is(word + " of a row that is gone", x.along(0, 2), Due.NONE);
        }
    }

    /** Wares 0 to 4 with sums 10, 40, 30, 50, 20. */
    private static CrossTable fiveWares(int n) {
        CrossTable x = Due.planned("basum." + n + "1");
        Due.fill(x, 0, 0, 10, 0, 1, 40, 1, 2, 30, 2, 3, 50, 3, 4, 20);
        return x;
    }

    private static void noMoreThanN() {
        Due.sentence(0, "GROUPS: ENTRIES of one KEY by the FIELD of rows.");
        Due.keysAre("n is 0", fiveWares(0), 0, 0, 1, 2, 3, 4);
        Due.sentence(0, "If n is 0, or there are no more than n of them, ROWS are all GROUPS;");
        for (int n = 1; n <= 4; n++) {
            CrossTable x = fiveWares(n);
            for (int groups = 5; groups > n; groups--) {
                Due.is("there is a rest, n is " + n + ", groups " + groups, x.key(0, n), 99);
                Due.is("rows", x.count(2), n + 1);
                x.drop(0);
            }
            Due.is("just n groups, n is " + n, x.count(2), n);
            Due.is("there is no rest", x.along(0, 99), Due.NONE);
            Due.is("the last is a group", x.key(0, n - 1), 4);
            x.drop(0);
            Due.is("fewer than n groups", x.count(2), n - 1);
        }
        CrossTable zero = Due.planned("v-count.01");
        for (int i = 0; i < 16; i++) {
            zero.add(0, 0, 5 * i);
        }
        Due.is("n is 0: all sixteen groups", zero.count(2), 16);
    }

    private static void moreThanN() {
        Due.sentence(0, "else the n of greatest MEASURE (NONE last; of like ones the lesser KEY first), and all others together, "
                + "which is THE REST (KEY 99).");
        Due.keysAre("n is 1", fiveWares(1), 0, 3, 99);
        Due.keysAre("n is 2", fiveWares(2), 0, 1, 3, 99);
        Due.keysAre("n is 3", fiveWares(3), 0, 1, 2, 3, 99);
        Due.keysAre("n is 4", fiveWares(4), 0, 1, 2, 3, 4, 99);
        Due.is("the rest by 1", fiveWares(1).along(0, 99), 100);
        Due.is("the rest by 2", fiveWares(2).along(0, 99), 60);
        Due.is("the rest by 3", fiveWares(3).along(0, 99), 30);
        Due.is("the rest by 4", fiveWares(4).along(0, 99), 10);
        CrossTable x = fiveWares(1);
        x.change(0, 51);
        Due.keysAre("another is greatest", x, 0, 0, 99);
        x.undo();
        Due.keysAre("as it was", x, 0, 3, 99);
        x.drop(3);
        Due.keysAre("the greatest is gone", x, 0, 1, 99);
    }

    private static void noneIsLast() {
        CrossTable x = Due.planned("abmost.11");
        Due.fill(x, 0, 0, 100, 1, 0, 100, 3, 0, 0);
        Due.keysAre("0 is more than NONE", x, 0, 3, 99);
        Due.is("the rest is NONE", x.along(0, 99), Due.NONE);
        Due.is("but it has entries", x.drill(99, 0), 3);
        Due.retell(x, "abmost.21");
        x.plan();
        Due.keysAre("then NONE, the lesser key", x, 0, 0, 3, 99);
        x.change(2, 100);
        Due.keysAre("all are NONE", x, 0, 0, 1, 99);
        CrossTable bins = Due.planned("valeast.11");
        Due.fill(bins, 0, 0, 100, 0, 0, 0);
        Due.keysAre("the bin of the missing is NONE", bins, 0, 0, 99);
        Due.is("it is the rest", bins.drill(99, 0), 1);
    }

    private static void lesserKeyFirst() {
        CrossTable x = Due.planned("bacount.21");
        Due.fill(x, 0, 4, 1, 0, 3, 1, 0, 2, 1, 0, 1, 1);
        Due.keysAre("all are like", x, 0, 1, 2, 99);
        x.add(1, 4, 1);
        Due.keysAre("one is more", x, 0, 1, 4, 99);
        CrossTable bins = Due.planned("vacount.11");
        Due.fill(bins, 0, 0, 100, 0, 0, 99);
        Due.keysAre("bin 19 before that of the missing", bins, 0, 19, 99);
        bins.add(0, 0, 100);
        Due.keysAre("that of the missing has more", bins, 0, 20, 99);
    }

    private static void restIsOneRow() {
        CrossTable kinds = Due.planned("abkinds.11");
        Due.fill(kinds, 0, 0, 7, 1, 0, 7, 2, 0, 8, 2, 0, 9, 3, 1, 100);
        Due.is("kinds of the rest together", kinds.along(0, 99), 1);
        Due.is("its entries", kinds.drill(99, 0) | kinds.drill(99, 1), 19);
        CrossTable least = Due.planned("ableast.11");
        Due.fill(least, 0, 0, 7, 1, 0, 3, 2, 0, 5, 3, 0, 100);
        Due.keysAre("the greatest least", least, 0, 0, 99);
        Due.is("least of the rest together", least.along(0, 99), 3);
        Due.is("no row has a key of the rest", least.along(0, 1), Due.NONE);
        Due.is("nor a cell", least.cell(1, 0), Due.NONE);
    }

    private static void rowsStandByKeys() {
        Due.sentence(0, "ROWS stand by KEYS, THE REST last.");
        CrossTable x = Due.planned("vasum.31");
        Due.fill(x, 0, 0, 99, 0, 0, 2, 0, 0, 100, 0, 0, 50, 0, 0, 10);
        Due.keysAre("by keys, not by measure", x, 0, 2, 10, 19, 99);
        Due.retell(x, "vacount.41");
        x.plan();
        Due.keysAre("the rest last", x, 0, 0, 2, 10, 19, 99);
        x.drop(1);
        Due.keysAre("the missing behind all bins", x, 0, 2, 10, 19, 20);
    }

    private static void columns() {
        Due.sentence(0, "COLUMNS are ENTRIES of one KEY by the FIELD of columns; they stand by KEYS.");
        CrossTable x = Due.planned("absum.11");
        Due.fill(x, 0, 4, 1, 1, 2, 2, 2, 0, 3, 3, 4, 100);
        Due.keysAre("no top, no rest", x, 1, 0, 2, 4);
        Due.is("of all rows", x.along(1, 4), 1);
        Due.is("there is no rest", x.along(1, 99), Due.NONE);
        Due.keysAre("none of nothing", Due.planned("absum.11"), 1);
    }

    private static void oneColumnForAll() {
        CrossTable x = Due.planned("a-sum.11");
        Due.keysAre("none of nothing", x, 1);
        Due.fill(x, 3, 4, 1, 0, 0, 100, 2, 2, 50);
        Due.keysAre("one column for all", x, 1, 0);
        Due.is("it has all", x.along(1, 0), 51);
        Due.is("the key of its entries", x.entry(2, 4), 0);
        Due.is("no other key", x.along(1, 4), Due.NONE);
        Due.is("cell of a row", x.drill(2, 0), 4);
        Due.is("cell of the rest", x.drill(99, 0), 3);
    }

    private static void cells() {
        Due.sentence(0, "A CELL is those of a ROW and a COLUMN.");
        CrossTable x = Due.planned("bacount.01");
        Due.fill(x, 1, 2, 0, 2, 1, 0, 1, 2, 0, 1, 1, 0);
        Due.is("row 2, column 1", x.drill(2, 1), 5);
        Due.is("row 1, column 2", x.drill(1, 2), 2);
        Due.is("row 1, column 1", x.drill(1, 1), 8);
        Due.is("row 2, column 2", x.drill(2, 2), 0);
        Due.is("count", x.cell(2, 1), 2);
    }

    private static void entry() {
        Due.sentence(11, "Of an ENTRY TOWN (what = 0), WARE (1), AMOUNT (2; none: 100), KEY of its ROW (3), KEY of its COLUMN (4).");
        CrossTable x = Due.planned("vbcount.12");
        Due.fill(x, 3, 4, 100, 2, 1, 99, 1, 0, 90);
        int[][] want = {{3, 4, 100, 99, 4}, {2, 1, 99, 9, 1}, {1, 0, 90, 9, 0}};
        for (int e = 0; e < want.length; e++) {
            for (int what = 0; what <= 4; what++) {
                Due.is("entry(" + e + ", " + what + ")", x.entry(e, what), want[e][what]);
            }
        }
        Due.retell(x, "vbcount.22");
        x.plan();
        Due.is("no rest now", x.entry(0, 3), 20);
    }

    private static void entryRefuses() {
        Due.sentence(11, "UNKNOWN; OUTSIDE.");
        CrossTable x = new CrossTable();
        Due.is("entry of nothing", x.entry(0, 0), Due.UNKNOWN);
        Due.fill(x, 3, 4, 100, 2, 1, 99);
        for (int what = 0; what <= 4; what++) {
            Due.is("entry(2, " + what + ")", x.entry(2, what), Due.UNKNOWN);
            Due.is("entry(-1, " + what + ")", x.entry(-1, what), Due.UNKNOWN);
            Due.is("entry(max, " + what + ")", x.entry(Integer.MAX_VALUE, what), Due.UNKNOWN);
            Due.is("entry(min, " + what + ")", x.entry(Integer.MIN_VALUE, what), Due.UNKNOWN);
        }
        for (int what : new int[] {-1, 5, Integer.MIN_VALUE, Integer.MAX_VALUE}) {
            Due.is("entry(0, " + what + ")", x.entry(0, what), Due.OUTSIDE);
            Due.is("entry(2, " + what + ")", x.entry(2, what), Due.UNKNOWN);
        }
    }

    private static void key() {
        Due.sentence(12, "KEY of ROW i (from 0; axis = 0), of COLUMN i (1); NONE: there is none such.");
        CrossTable x = Due.planned("abcount.11");
        Due.is("no row", x.key(0, 0), Due.NONE);
        Due.is("no column", x.key(1, 0), Due.NONE);
        Due.fill(x, 3, 1, 0, 2, 4, 0, 3, 4, 0);
        Due.keysAre("rows", x, 0, 3, 99);
        Due.keysAre("columns", x, 1, 1, 4);
        for (int axis = 0; axis <= 1; axis++) {
            Due.is("before", x.key(axis, -1), Due.NONE);
            Due.is("far before", x.key(axis, Integer.MIN_VALUE), Due.NONE);
            Due.is("far behind", x.key(axis, Integer.MAX_VALUE), Due.NONE);
        }
        Due.sentence(12, "OUTSIDE: axis.");
        for (int axis : new int[] {-1, 2, Integer.MIN_VALUE, Integer.MAX_VALUE}) {
            Due.is("key(" + axis + ", 0)", x.key(axis, 0), Due.OUTSIDE);
            Due.is("key(" + axis + ", 9)", x.key(axis, 9), Due.OUTSIDE);
        }
    }

    private static void cellOfNothing() {
        Due.sentence(13, "MEASURE of a CELL, by KEYS; NONE: there are no ENTRIES (or no such ROW, COLUMN).");
        CrossTable x = Due.planned("absum.21");
        Due.is("cell of nothing", x.cell(0, 0), Due.NONE);
        Due.is("cell of no rest", x.cell(99, 0), Due.NONE);
        Due.fill(x, 0, 0, 5, 1, 1, 100, 2, 0, 7);
        Due.is("an entry", x.cell(2, 0), 7);
        Due.is("row 1 is in the rest", x.cell(1, 1), Due.NONE);
        Due.is("the rest, without amounts", x.cell(99, 1), 0);
        Due.is("no entries", x.cell(0, 1), Due.NONE);
        Due.is("no such row", x.cell(3, 0), Due.NONE);
        Due.is("no such column", x.cell(0, 2), Due.NONE);
        Due.is("columns have no rest", x.cell(0, 99), Due.NONE);
        for (int far : NO_KEYS) {
            Due.is("cell(" + far + ", 0)", x.cell(far, 0), Due.NONE);
            Due.is("cell(0, " + far + ")", x.cell(0, far), Due.NONE);
        }
    }

    private static void drill() {
        Due.sentence(14, "ENTRIES of a CELL, as bits.");
        CrossTable x = Due.planned("a-count.11");
        Due.is("drill of nothing", x.drill(0, 0), 0);
        for (int i = 0; i < 16; i++) {
            x.add(i == 0 || i == 15 ? 0 : 1, i % 5, i);
        }
        Due.is("all but the first and the last", x.drill(1, 0), 0x7ffe);
        Due.is("the first and the last", x.drill(99, 0), 0x8001);
        Due.is("row 0 is in the rest", x.drill(0, 0), 0);
        for (int far : NO_KEYS) {
            Due.is("drill(" + far + ", 0)", x.drill(far, 0), 0);
            Due.is("drill(1, " + far + ")", x.drill(1, far), 0);
        }
        x.drop(0);
        Due.is("those behind have come up", x.drill(1, 0), 0x3fff);
        Due.is("the last too", x.drill(99, 0), 0x4000);
        x.undo();
        Due.is("undone", x.drill(99, 0), 0x8001);
    }

    private static void along() {
        Due.sentence(15, "MEASURE of a ROW by its KEY (axis = 0), of a COLUMN (1); NONE.");
        CrossTable x = Due.planned("vasum.12");
        Due.is("no row", x.along(0, 0), Due.NONE);
        Due.is("no column", x.along(1, 0), Due.NONE);
        Due.fill(x, 0, 0, 100, 3, 0, 99, 3, 0, 91);
        Due.is("row 9", x.along(0, 9), 190);
        Due.is("row 20 is the rest", x.along(0, 20), Due.NONE);
        Due.is("the rest, without amounts", x.along(0, 99), 0);
        Due.is("column 3", x.along(1, 3), 190);
        Due.is("column 0, without amounts", x.along(1, 0), 0);
        Due.is("no such column", x.along(1, 1), Due.NONE);
        for (int far : NO_KEYS) {
            Due.is("along(0, " + far + ")", x.along(0, far), Due.NONE);
            Due.is("along(1, " + far + ")", x.along(1, far), Due.NONE);
        }
        Due.sentence(15, "OUTSIDE: axis.");
        for (int axis : new int[] {-1, 2, Integer.MIN_VALUE, Integer.MAX_VALUE}) {
            Due.is("along(" + axis + ", 9)", x.along(axis, 9), Due.OUTSIDE);
        }
    }

    private static void total() {
        Due.sentence(16, "TOTAL; NONE.");
        CrossTable x = Due.planned("vakinds.11");
        Due.is("total of nothing", x.total(), Due.NONE);
        Due.sentence(0, "TOTAL: MEASURE of all ENTRIES.");
        x.add(0, 0, 100);
        Due.is("kinds of the missing", x.total(), 0);
        Due.fill(x, 1, 0, 5, 2, 0, 50, 3, 0, 5);
        Due.is("the rest too, and like ones once", x.total(), 2);
        Due.retell(x, "abmost.01");
        x.plan();
        Due.is("most", x.total(), 50);
        x.change(2, 100);
        x.change(1, 100);
        x.change(3, 100);
        Due.is("most of the missing", x.total(), Due.NONE);
    }
}
