/** Promises 23 to 26: share, lost, seed, drawn. */
public final class ChanceTest {
    public static void main(String[] args) {
        shareOfSums();
        shareOfOthers();
        shareRefuses();
        lost();
        lostRefuses();
        seed();
        drawn();
        drawnWhenFull();
        Due.end("ChanceTest");
    }

    private static void shareIs(CrossTable x, int i, int above, int below) {
        Due.is("share(" + i + ") above", x.share(i, true), above);
        Due.is("share(" + i + ") below", x.share(i, false), below);
    }

    private static void shareOfSums() {
        CrossTable x = Due.planned("absum.01");
        Due.fill(x, 0, 0, 10, 1, 0, 100, 3, 0, 7, 3, 1, 8);
        String was = Due.stateOf(x);
        shareIs(x, 0, 10, 1);
        shareIs(x, 1, 0, 1);
        shareIs(x, 2, 15, 1);
        Due.same("share", Due.stateOf(x), was);
        Due.retell(x, "abcount.11");
        x.plan();
        shareIs(x, 0, 2, 1);
        shareIs(x, 1, 2, 1);
    }

    private static void shareOfOthers() {
        CrossTable most = Due.planned("abmost.01");
        Due.fill(most, 0, 0, 6, 1, 0, 9, 2, 0, 100);
        shareIs(most, 0, 3, 1);
        shareIs(most, 1, 6, 1);
        shareIs(most, 2, 0, 1);
        most.change(1, 7);
        shareIs(most, 1, 4, 1);
        most.change(2, 3);
        // of 7 the first 3 are shared by three, the next 3 by two, the last 1 is one row's own
        shareIs(most, 0, 5, 2);
        shareIs(most, 1, 7, 2);
        shareIs(most, 2, 1, 1);
        CrossTable least = Due.planned("ableast.01");
        Due.fill(least, 0, 0, 6, 1, 0, 9);
        // first 6 then nothing more, or first 9 then 3 less
        shareIs(least, 0, 3, 2);
        shareIs(least, 1, 9, 2);
        least.change(1, 99);
        shareIs(least, 0, -87, 2);
        shareIs(least, 1, 99, 2);
        CrossTable kinds = Due.planned("bakinds.01");
        Due.fill(kinds, 0, 0, 4, 0, 1, 4, 0, 2, 4, 0, 2, 5);
        shareIs(kinds, 0, 1, 3);
        shareIs(kinds, 2, 4, 3);
    }

    private static void shareRefuses() {
        CrossTable x = Due.planned("v-sum.01");
        Due.is("share of nothing", x.share(0, true), Due.UNKNOWN);
        for (int i = 0; i < 6; i++) {
            x.add(0, 0, 10 * i);
        }
        shareIs(x, 5, 50, 1);
        Due.is("share(6)", x.share(6, true), Due.UNKNOWN);
        Due.is("share(-1)", x.share(-1, false), Due.UNKNOWN);
        x.add(0, 0, 100);
        Due.is("share of seven rows", x.share(0, true), Due.FULL);
        Due.is("share of seven rows", x.share(6, false), Due.FULL);
        Due.is("share of seven rows, unknown", x.share(7, false), Due.UNKNOWN);
        Due.retell(x, "v-sum.41");
        Due.is("five rows", x.plan(), 5);
        shareIs(x, 4, 10, 1);
    }

    private static void lostIs(CrossTable x, int v, int tenths, int above, int below) {
        Due.is("lost(" + v + ", " + tenths + ") above", x.lost(v, tenths, true), above);
        Due.is("lost(" + v + ", " + tenths + ") below", x.lost(v, tenths, false), below);
    }

    private static void lost() {
        CrossTable x = Due.planned("absum.01");
        lostIs(x, 0, 5, 0, 1);
        Due.fill(x, 0, 0, 10, 1, 0, 20, 2, 0, 100);
        String was = Due.stateOf(x);
        lostIs(x, 30, 1, 81, 100);
        lostIs(x, 20, 1, 9, 10);
        lostIs(x, 10, 1, 99, 100);
        lostIs(x, 31, 1, 0, 1);
        lostIs(x, 0, 1, 999, 1000);
        lostIs(x, 0, 0, 1, 1);
        lostIs(x, 30, 0, 1, 1);
        lostIs(x, 0, 10, 0, 1);
        lostIs(x, 20, 5, 1, 2);
        Due.same("lost", Due.stateOf(x), was);
        Due.retell(x, "abmost.01");
        x.plan();
        lostIs(x, 0, 1, 99, 100);
        Due.retell(x, "absum.11");
        x.plan();
        lostIs(x, 10, 3, 91, 100);
    }

    private static void lostRefuses() {
        CrossTable x = Due.planned("v-count.01");
        for (int i = 0; i < 6; i++) {
            x.add(0, 0, 10 * i);
        }
        lostIs(x, 6, 9, 1, 1000000);
        lostIs(x, 999, 9, 0, 1);
        Due.is("v -1", x.lost(-1, 0, true), Due.OUTSIDE);
        Due.is("v 1000", x.lost(1000, 0, false), Due.OUTSIDE);
        Due.is("x -1", x.lost(0, -1, true), Due.OUTSIDE);
        Due.is("x 11", x.lost(0, 11, false), Due.OUTSIDE);
        x.add(0, 0, 99);
        Due.is("seven rows", x.lost(0, 0, true), Due.FULL);
        Due.is("seven rows", x.lost(0, 0, false), Due.FULL);
        Due.is("seven rows, outside", x.lost(0, 11, false), Due.OUTSIDE);
    }

    private static void seed() {
        CrossTable x = new CrossTable();
        Due.is("first seed", x.seed(Long.MIN_VALUE), 0);
        Due.is("seed", x.seed(Long.MAX_VALUE), Long.MIN_VALUE);
        Due.is("seed", x.seed(-1), Long.MAX_VALUE);
        Due.is("seed", x.seed(0), -1);
    }

    private static void drawn() {
        CrossTable x = Due.planned("absum.01");
        Due.is("drawn(0)", x.drawn(0), Due.OUTSIDE);
        Due.is("drawn(21)", x.drawn(21), Due.OUTSIDE);
        Due.is("drawn(min)", x.drawn(Integer.MIN_VALUE), Due.OUTSIDE);
        Due.is("the seed stays", x.seed(0), 0);
        long first = 1442695040888963407L;
        long bits = first >>> 33;
        int amount = (int) (bits / 32 % 101);
        Due.is("drawn(1)", x.drawn(1), amount == 100 ? 0 : amount);
        Due.is("the seed goes on", x.seed(0), first);
        String was = Due.stateOf(x);
        x.drawn(20);
        Due.same("drawn", Due.stateOf(x), was);
        Due.is("no entries", x.count(1), 0);
        // all at once or one by one: the seed goes the same way
        x.seed(77);
        for (int i = 0; i < 20; i++) {
            x.drawn(1);
        }
        long oneByOne = x.seed(77);
        x.drawn(20);
        Due.is("seed of 20", x.seed(0), oneByOne);
    }

    private static void drawnWhenFull() {
        CrossTable x = new CrossTable();
        for (int i = 0; i < 16; i++) {
            x.add(0, 0, i);
        }
        Due.is("full: one goes", x.drawn(1), 15);
        Due.is("then one comes", x.drawn(2), 15 + 16);
        Due.is("and so on", x.drawn(20), 10 * (15 + 16));
        Due.retell(x, "absum.01");
        x.plan();
        x.change(0, 90);
        Due.is("the first goes", x.drawn(1), 120);
        Due.is("entries stay", x.count(1), 16);
        Due.is("acts stay", x.count(6), 14);
    }
}
