/** The edges of SEEN and HIDDEN, and of promises 20 to 22. */
public final class SeenEdgesTest {
    public static void main(String[] args) {
        seeOutside();
        seeSix();
        seenNoneAtFirst();
        unsee();
        wasOrWasNot();
        rowsThatAreNot();
        allMustBeSo();
        firstIsTheLeast();
        noneFits();
        hiddenRefuses();
        asTheTableIsNow();
        Due.end("SeenEdgesTest");
    }

    private static void seeOutside() {
        Due.sentence(20, "OUTSIDE: key (0 to 20, or 99), v (-9, or 0 to 9999), was (0, 1); FULL: 6.");
        CrossTable x = new CrossTable();
        for (int key : new int[] {Integer.MIN_VALUE, -9, -1, 21, 98, 100, Integer.MAX_VALUE}) {
            Due.is("key " + key, x.see(key, 0, 0), Due.OUTSIDE);
        }
        for (int v : new int[] {Integer.MIN_VALUE, -10, -8, -1, 10000, Integer.MAX_VALUE}) {
            Due.is("v " + v, x.see(0, v, 0), Due.OUTSIDE);
        }
        for (int was : new int[] {Integer.MIN_VALUE, -1, 2, Integer.MAX_VALUE}) {
            Due.is("was " + was, x.see(0, 0, was), Due.OUTSIDE);
        }
        Due.is("seen", x.count(7), 0);
    }

    private static void seeSix() {
        Due.sentence(20, "SEEN: how many there are.");
        CrossTable x = new CrossTable();
        Due.is("the least key", x.see(0, 0, 0), 1);
        Due.is("the greatest key", x.see(20, 0, 0), 2);
        Due.is("the rest", x.see(99, 0, 0), 3);
        Due.is("NONE", x.see(0, -9, 1), 4);
        Due.is("the greatest v", x.see(0, 9999, 0), 5);
        Due.is("the same once more", x.see(0, 9999, 0), 6);
        Due.is("the seventh", x.see(0, 0, 0), Due.FULL);
        Due.is("the seventh", x.see(99, -9, 1), Due.FULL);
        Due.is("seen", x.count(7), 6);
    }

    private static void seenNoneAtFirst() {
        Due.sentence(0, "SEEN: that with one ENTRY more MEASURE of the ROW of a KEY was v (1), or was not (0): "
                + "6 such at most, none at first.");
        CrossTable x = new CrossTable();
        Due.is("none at first", x.count(7), 0);
        Due.is("all can be", x.hidden(0), 2020);
        Due.is("the first of all", x.hidden(1), 0);
        Due.is("acts are none of it", x.see(0, 1, 1), 1);
        Due.is("acts", x.count(6), 0);
    }

    private static void unsee() {
        Due.sentence(21, "Nothing is SEEN: how much there was.");
        CrossTable x = new CrossTable();
        Due.is("unsee of nothing", x.unsee(), 0);
        for (int i = 1; i <= 6; i++) {
            Due.is("see", x.see(0, 5, 1), i);
        }
        Due.is("none can be", x.hidden(0), 0);
        Due.is("unsee", x.unsee(), 6);
        Due.is("unsee again", x.unsee(), 0);
        Due.is("seen", x.count(7), 0);
        Due.is("all can be", x.hidden(0), 2020);
        Due.is("room again", x.see(0, 1, 1), 1);
        Due.is("nothing of the old is left", x.hidden(0), 505);
    }

    private static void hiddenIs(String of, CrossTable x, int many, int first) {
        Due.is(of + ": how many", x.hidden(0), many);
        Due.is(of + ": the first", x.hidden(1), first);
    }

    private static void wasOrWasNot() {
        Due.sentence(22, "HIDDEN: how many (what = 0), the first (1); NONE.");
        CrossTable x = Due.planned("absum.01");
        x.add(2, 0, 50);
        x.see(2, 149, 1);
        hiddenIs("it was 149", x, 5, 20099);
        x.unsee();
        x.see(2, 149, 0);
        hiddenIs("it was not 149", x, 2015, 0);
        x.unsee();
        x.see(2, 50, 1);
        hiddenIs("it was 50: in another row, or 0, or none", x, 1515 + 10, 0);
        x.unsee();
        x.see(2, 50, 0);
        hiddenIs("it was not 50", x, 495, 20001);
        x.unsee();
        x.see(2, 150, 1);
        hiddenIs("it was 150, which can not be", x, 0, Due.NONE);
    }

    private static void rowsThatAreNot() {
        CrossTable x = Due.planned("absum.11");
        x.add(1, 0, 50);
        x.see(3, -9, 1);
        hiddenIs("there was no row 3: row 1 is on top, or is alone", x, 2020 - 5 * 49, 0);
        x.see(99, -9, 1);
        hiddenIs("there was no rest", x, 505, 10000);
        x.unsee();
        x.see(99, -9, 0);
        x.see(1, -9, 1);
        hiddenIs("row 1 was in the rest: the hidden is more, or as much with a lesser key", x, 15 * 49 + 5, 50);
        x.unsee();
        x.see(99, 0, 1);
        hiddenIs("the rest was 0", x, 15 * 2, 0);
        CrossTable most = Due.planned("abmost.01");
        most.see(0, -9, 0);
        hiddenIs("row 0 had an amount", most, 500, 0);
        most.unsee();
        most.see(0, -9, 1);
        hiddenIs("row 0 was NONE: it was not, or had no amount", most, 1515 + 5, 100);
    }

    private static void allMustBeSo() {
        Due.sentence(0, "HIDDEN: ENTRIES (TOWN, WARE, and AMOUNT 0 to 99, or none) by which all that is SEEN is so: how many; "
                + "the first (10000 times TOWN, 1000 times WARE, and AMOUNT, 100 if there is none; the least number); NONE.");
        CrossTable x = Due.planned("basum.01");
        Due.fill(x, 0, 4, 10);
        for (int ware = 0; ware <= 3; ware++) {
            x.see(ware, -9, 1);
        }
        hiddenIs("in row 4", x, 4 * 101, 4000);
        x.see(4, 10, 0);
        hiddenIs("neither 0 nor none", x, 4 * 99, 4001);
        x.see(4, 11, 0);
        hiddenIs("nor 1", x, 4 * 98, 4002);
        x.unsee();
        x.see(4, 109, 1);
        hiddenIs("99 in row 4", x, 4, 4099);
        x.see(4, 10, 0);
        x.see(0, -9, 0);
        hiddenIs("the last of three is not so", x, 0, Due.NONE);
        x.unsee();
        x.see(0, -9, 0);
        x.see(4, 109, 1);
        hiddenIs("the first of two is not so", x, 0, Due.NONE);
    }

    private static void firstIsTheLeast() {
        CrossTable bins = Due.planned("vacount.01");
        bins.see(20, 1, 1);
        hiddenIs("only those without an amount", bins, 20, 100);
        bins.unsee();
        bins.see(19, 1, 1);
        hiddenIs("95 to 99", bins, 100, 95);
        CrossTable towns = Due.planned("abkinds.01");
        towns.see(3, 0, 1);
        hiddenIs("town 3 without an amount", towns, 5, 30100);
        CrossTable wares = Due.planned("b-kinds.01");
        wares.see(4, 0, 1);
        hiddenIs("ware 4 without an amount", wares, 4, 4100);
    }

    private static void noneFits() {
        CrossTable x = new CrossTable();
        x.see(0, 0, 1);
        hiddenIs("a row of 0", x, 0, Due.NONE);
        x.unsee();
        x.see(0, 1, 1);
        x.see(0, 1, 0);
        hiddenIs("it was and was not", x, 0, Due.NONE);
        x.unsee();
        x.see(20, 1, 1);
        hiddenIs("no row has such a key", x, 0, Due.NONE);
    }

    private static void hiddenRefuses() {
        Due.sentence(22, "OUTSIDE; FULL: there are 16 ENTRIES.");
        CrossTable x = new CrossTable();
        for (int i = 0; i < 15; i++) {
            x.add(0, 0, 0);
        }
        for (int what : new int[] {-1, 2, Integer.MIN_VALUE, Integer.MAX_VALUE}) {
            Due.is("hidden(" + what + ")", x.hidden(what), Due.OUTSIDE);
        }
        x.see(0, 16, 1);
        hiddenIs("the sixteenth", x, 505, 0);
        x.add(0, 0, 0);
        hiddenIs("the seventeenth", x, Due.FULL, Due.FULL);
        x.undo();
        hiddenIs("the sixteenth", x, 505, 0);
    }

    /** What was seen stays; the entries and the plan are those that there are. */
    private static void asTheTableIsNow() {
        CrossTable x = Due.planned("abcount.01");
        x.see(1, 2, 1);
        hiddenIs("no entries", x, 0, Due.NONE);
        x.add(1, 3, 100);
        hiddenIs("one of town 1", x, 505, 10000);
        Due.retell(x, "bacount.01");
        x.plan();
        hiddenIs("none of ware 1", x, 0, Due.NONE);
        x.add(0, 1, 5);
        hiddenIs("one of ware 1", x, 404, 1000);
        Due.retell(x, "vacount.01");
        x.plan();
        hiddenIs("one of bin 1", x, 20 * 5, 5);
    }
}
