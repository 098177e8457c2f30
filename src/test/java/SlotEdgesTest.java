/** The edges of SLOTS, and of promises 27 to 29. */
public final class SlotEdgesTest {
    public static void main(String[] args) {
        keepUnknown();
        keepEmptyAndFull();
        keptStays();
        slotsAreApart();
        againRefuses();
        actsAreEmptyThen();
        againLeavesAllElse();
        countOfNothing();
        countOfAllThatIsFull();
        countOfCells();
        countOutside();
        Due.end("SlotEdgesTest");
    }

    private static CrossTable two() {
        CrossTable x = new CrossTable();
        Due.fill(x, 0, 1, 2, 3, 4, 100);
        return x;
    }

    private static void keepUnknown() {
        Due.sentence(27, "UNKNOWN.");
        CrossTable x = two();
        for (int slot : new int[] {Integer.MIN_VALUE, -1, 2, Integer.MAX_VALUE}) {
            Due.is("keep(" + slot + ")", x.keep(slot), Due.UNKNOWN);
        }
        Due.is("nothing is kept", x.again(0), Due.STATE);
        Due.is("nothing is kept", x.again(1), Due.STATE);
    }

    private static void keepEmptyAndFull() {
        Due.sentence(27, "They are kept: how many ENTRIES.");
        for (int slot = 0; slot <= 1; slot++) {
            CrossTable x = new CrossTable();
            Due.is("keep nothing", x.keep(slot), 0);
            x.add(0, 0, 0);
            Due.is("nothing again, which is no STATE", x.again(slot), 0);
            Due.is("entries", x.count(1), 0);
            for (int i = 0; i < 16; i++) {
                x.add(i % 4, i % 5, i == 7 ? 100 : i);
            }
            Due.is("keep sixteen, over nothing", x.keep(slot), 16);
            for (int i = 0; i < 16; i++) {
                x.drop(0);
            }
            Due.is("sixteen again", x.again(slot), 16);
            for (int i = 0; i < 16; i++) {
                Due.is("town", x.entry(i, 0), i % 4);
                Due.is("ware", x.entry(i, 1), i % 5);
                Due.is("amount", x.entry(i, 2), i == 7 ? 100 : i);
            }
            Due.is("it is full", x.add(0, 0, 0), Due.FULL);
            x.drop(15);
            Due.is("keep fewer over more", x.keep(slot), 15);
            Due.is("fewer again", x.again(slot), 15);
        }
    }

    private static void keptStays() {
        Due.sentence(28, "They are as they were kept: how many ENTRIES.");
        CrossTable x = two();
        x.keep(0);
        x.change(0, 99);
        x.drop(1);
        x.add(1, 1, 1);
        Due.is("again", x.again(0), 2);
        Due.entriesAre("as kept", x, 0, 1, 2, 3, 4, 100);
        x.change(1, 50);
        Due.is("again once more", x.again(0), 2);
        Due.entriesAre("as kept", x, 0, 1, 2, 3, 4, 100);
        x.change(0, 7);
        x.undo();
        x.drop(0);
        Due.is("again by undone acts", x.again(0), 2);
        Due.entriesAre("as kept", x, 0, 1, 2, 3, 4, 100);
    }

    private static void slotsAreApart() {
        Due.sentence(0, "SLOTS 0 to 1 keep ENTRIES (THE ROW of ACTS is empty when one goes on).");
        CrossTable x = two();
        x.keep(0);
        x.drop(0);
        Due.is("slot 1 has none", x.again(1), Due.STATE);
        x.keep(1);
        Due.is("slot 0", x.again(0), 2);
        Due.is("slot 1", x.again(1), 1);
        Due.entriesAre("slot 1", x, 3, 4, 100);
        x.change(0, 1);
        Due.is("slot 0 by slot 1", x.keep(0), 1);
        Due.is("slot 1 is as it was", x.again(1), 1);
        Due.entriesAre("slot 1", x, 3, 4, 100);
        Due.is("slot 0 is another", x.again(0), 1);
        Due.entriesAre("slot 0", x, 3, 4, 1);
    }

    private static void againRefuses() {
        Due.sentence(28, "UNKNOWN; STATE: none were kept.");
        CrossTable x = two();
        for (int slot : new int[] {Integer.MIN_VALUE, -1, 2, Integer.MAX_VALUE}) {
            Due.is("again(" + slot + ")", x.again(slot), Due.UNKNOWN);
        }
        Due.is("again(0)", x.again(0), Due.STATE);
        Due.is("again(1)", x.again(1), Due.STATE);
        Due.is("acts stay", x.count(6), 2);
        Due.is("entries stay", x.count(1), 2);
    }

    private static void actsAreEmptyThen() {
        CrossTable x = two();
        x.keep(0);
        Due.is("keep leaves acts", x.count(6), 2);
        Due.is("undo behind keep", x.undo(), 1);
        Due.is("again", x.again(0), 2);
        Due.is("acts", x.count(6), 0);
        Due.is("undo behind again", x.undo(), Due.STATE);
        Due.entriesAre("nothing is undone", x, 0, 1, 2, 3, 4, 100);
        x.change(1, 3);
        Due.is("acts go on", x.count(6), 1);
        Due.is("undo one", x.undo(), 0);
        Due.is("no more", x.undo(), Due.STATE);
        Due.entriesAre("only that is undone", x, 0, 1, 2, 3, 4, 100);
    }

    private static void againLeavesAllElse() {
        CrossTable x = two();
        x.see(0, 1, 0);
        x.seed(5);
        Due.retell(x, "abmost.01");
        x.plan();
        x.keep(1);
        x.see(1, 1, 0);
        x.seed(6);
        Due.retell(x, "v-least.0");
        x.again(1);
        Due.is("the plan", x.word(0), 'm');
        Due.is("the text", x.count(0), 9);
        Due.is("seen", x.count(7), 2);
        Due.is("the seed", x.seed(0), 6);
    }

    private static void countsAre(String of, CrossTable x, int... want) {
        for (int what = 0; what < want.length; what++) {
            Due.is(of + ": count(" + what + ")", x.count(what), want[what]);
        }
    }

    private static void countOfNothing() {
        Due.sentence(29, "0 letters of THE TEXT, 1 ENTRIES, 2 ROWS, 3 COLUMNS, 4 CELLS that have ENTRIES, "
                + "5 ENTRIES without an AMOUNT, 6 ACTS in the row, 7 SEEN.");
        countsAre("new", new CrossTable(), 0, 0, 0, 0, 0, 0, 0, 0);
        countsAre("one column, no entries", Due.planned("a-sum.11"), 8, 0, 0, 0, 0, 0, 0, 0);
    }

    private static void countOfAllThatIsFull() {
        CrossTable x = Due.planned("vbcount.01");
        for (int i = 0; i < 16; i++) {
            x.add(i % 4, i % 5, i == 15 ? 100 : 6 * i);
        }
        for (int i = 0; i < 6; i++) {
            x.see(0, 0, 0);
        }
        Due.retell(x, "a".repeat(32));
        countsAre("all full", x, 32, 16, 16, 5, 16, 1, 14, 6);
        for (int i = 0; i < 16; i++) {
            x.change(i, 100);
        }
        countsAre("all missing", x, 32, 16, 1, 5, 5, 16, 14, 6);
        for (int i = 0; i < 16; i++) {
            x.drop(0);
        }
        countsAre("all gone", x, 32, 0, 0, 0, 0, 0, 14, 6);
    }

    private static void countOfCells() {
        CrossTable x = Due.planned("abcount.11");
        Due.fill(x, 0, 0, 0, 0, 0, 0, 1, 1, 0, 2, 1, 0, 3, 2, 0);
        countsAre("rows 0 and the rest", x, 10, 5, 2, 3, 3, 0, 5, 0);
        x.add(3, 0, 0);
        countsAre("row 3 has as much, the lesser key stays", x, 10, 6, 2, 3, 4, 0, 6, 0);
        Due.retell(x, "abcount.01");
        x.plan();
        countsAre("all groups", x, 10, 6, 4, 3, 5, 0, 6, 0);
        CrossTable far = Due.planned("basum.01");
        Due.fill(far, 1, 2, 100, 3, 4, 100);
        countsAre("keys far apart", far, 8, 2, 2, 2, 2, 2, 2, 0);
        far.drop(1);
        countsAre("one is gone", far, 8, 1, 1, 1, 1, 1, 3, 0);
    }

    private static void countOutside() {
        Due.sentence(29, "OUTSIDE.");
        CrossTable x = two();
        for (int what : new int[] {Integer.MIN_VALUE, -9, -1, 8, 9, Integer.MAX_VALUE}) {
            Due.is("count(" + what + ")", x.count(what), Due.OUTSIDE);
        }
    }
}
