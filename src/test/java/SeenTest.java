/** Promises 20 to 22: see, unsee, hidden. */
public final class SeenTest {
    public static void main(String[] args) {
        see();
        unsee();
        hiddenRefuses();
        hiddenByTowns();
        hiddenByWares();
        hiddenByBins();
        hiddenOfTheRest();
        Due.end("SeenTest");
    }

    private static void see() {
        CrossTable x = new CrossTable();
        Due.is("key -1", x.see(-1, 0, 0), Due.OUTSIDE);
        Due.is("key 21", x.see(21, 0, 0), Due.OUTSIDE);
        Due.is("key 98", x.see(98, 0, 0), Due.OUTSIDE);
        Due.is("key 100", x.see(100, 0, 0), Due.OUTSIDE);
        Due.is("v -1", x.see(0, -1, 0), Due.OUTSIDE);
        Due.is("v -8", x.see(0, -8, 0), Due.OUTSIDE);
        Due.is("v -10", x.see(0, -10, 0), Due.OUTSIDE);
        Due.is("v 10000", x.see(0, 10000, 0), Due.OUTSIDE);
        Due.is("was 2", x.see(0, 0, 2), Due.OUTSIDE);
        Due.is("was -1", x.see(0, 0, -1), Due.OUTSIDE);
        Due.is("seen", x.count(7), 0);
        Due.is("see 1", x.see(0, 0, 0), 1);
        Due.is("see 2", x.see(20, 9999, 1), 2);
        Due.is("see 3", x.see(99, -9, 0), 3);
        Due.is("see 4", x.see(19, -9, 1), 4);
        Due.is("see 5", x.see(0, 0, 1), 5);
        Due.is("see 6", x.see(0, 0, 1), 6);
        Due.is("see 7", x.see(0, 0, 1), Due.FULL);
        Due.is("see 7, outside", x.see(0, 0, 2), Due.OUTSIDE);
        Due.is("seen", x.count(7), 6);
    }

    private static void unsee() {
        CrossTable x = new CrossTable();
        Due.is("unsee nothing", x.unsee(), 0);
        x.see(0, 5, 1);
        x.see(1, 5, 1);
        Due.is("hidden by what can not be", x.hidden(0), 0);
        Due.is("unsee", x.unsee(), 2);
        Due.is("seen", x.count(7), 0);
        Due.is("hidden by nothing", x.hidden(0), 2020);
        Due.is("see again", x.see(0, 1, 1), 1);
    }

    private static void hiddenRefuses() {
        CrossTable x = new CrossTable();
        Due.is("hidden(-1)", x.hidden(-1), Due.OUTSIDE);
        Due.is("hidden(2)", x.hidden(2), Due.OUTSIDE);
        for (int i = 0; i < 16; i++) {
            x.add(0, 0, i);
        }
        Due.is("hidden when full", x.hidden(0), Due.FULL);
        Due.is("hidden when full", x.hidden(1), Due.FULL);
        Due.is("hidden when full, outside", x.hidden(2), Due.OUTSIDE);
    }

    private static void hiddenIs(String of, CrossTable x, int many, int first) {
        String was = Due.stateOf(x);
        Due.is(of + ": how many", x.hidden(0), many);
        Due.is(of + ": the first", x.hidden(1), first);
        Due.same(of, Due.stateOf(x), was);
    }

    private static void hiddenByTowns() {
        CrossTable x = Due.planned("absum.01");
        Due.fill(x, 1, 0, 20, 2, 0, 100);
        hiddenIs("nothing seen", x, 2020, 0);
        x.see(1, 25, 1);
        hiddenIs("row 1 was 25", x, 5, 10005);
        x.see(2, 0, 1);
        hiddenIs("row 2 was 0 too", x, 5, 10005);
        x.see(3, -9, 0);
        hiddenIs("row 3 was there too", x, 0, Due.NONE);
        x.unsee();
        x.see(3, -9, 0);
        hiddenIs("row 3 was there", x, 505, 30000);
        x.see(3, 0, 0);
        hiddenIs("and was not 0", x, 495, 30001);
        x.unsee();
        x.see(1, 20, 1);
        x.see(2, 0, 1);
        x.see(0, -9, 1);
        x.see(3, -9, 1);
        hiddenIs("nothing can be told", x, 5 * 2 + 5 * 2, 10000);
        x.see(99, -9, 1);
        hiddenIs("there is no rest", x, 20, 10000);
        x.see(17, 3, 1);
        hiddenIs("no row has the key", x, 0, Due.NONE);
    }

    private static void hiddenByWares() {
        CrossTable x = Due.planned("b-most.01");
        Due.fill(x, 0, 4, 98);
        x.see(4, 98, 0);
        hiddenIs("row 4 was not 98", x, 4, 4099);
        x.unsee();
        x.see(3, -9, 1);
        x.see(4, 98, 1);
        x.see(0, -9, 1);
        x.see(1, -9, 1);
        x.see(2, -9, 1);
        hiddenIs("only rows without amounts", x, 4 * (100 + 4), 100);
        x.unsee();
        x.see(2, 7, 1);
        hiddenIs("row 2 was 7", x, 4, 2007);
    }

    private static void hiddenByBins() {
        CrossTable x = Due.planned("vbcount.02");
        x.add(0, 0, 15);
        x.see(1, 2, 1);
        hiddenIs("bin 1 had two", x, 20 * 10, 10);
        x.see(20, 1, 0);
        hiddenIs("and none was missing", x, 20 * 10, 10);
        x.unsee();
        x.see(20, 1, 1);
        hiddenIs("one was missing", x, 20, 100);
    }

    private static void hiddenOfTheRest() {
        CrossTable x = Due.planned("abcount.11");
        Due.fill(x, 1, 0, 1, 2, 0, 1);
        x.see(99, 1, 1);
        hiddenIs("the rest has one", x, 2 * 505, 10000);
        x.see(1, -9, 1);
        hiddenIs("row 1 is in it", x, 505, 20000);
        x.unsee();
        x.see(99, 2, 1);
        hiddenIs("the rest has two", x, 2 * 505, 0);
        x.see(0, 1, 1);
        hiddenIs("and row 0 is on top", x, 505, 0);
    }
}
