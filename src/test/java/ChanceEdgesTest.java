/** The edges of SHARE, LOST and DRAWN, and of promises 23 to 26. */
public final class ChanceEdgesTest {
    public static void main(String[] args) {
        shareOfSixRows();
        shareOfTheMissing();
        shareByPlace();
        shareOfTheRest();
        shareRefuses();
        lostNotAtAllOrSurely();
        lostOfNoneIsNot();
        lostThatOrMore();
        lostOfSixRows();
        lostRefuses();
        seed();
        drawnBySeeds();
        drawnWithoutAmounts();
        drawnIntoAFullTable();
        drawnOutside();
        drawnLeavesAllElse();
        Due.end("ChanceEdgesTest");
    }

    private static CrossTable bins(String plan, int... amounts) {
        CrossTable x = Due.planned(plan);
        for (int amount : amounts) {
            x.add(0, 0, amount);
        }
        return x;
    }

    /** Of each row what is above and what is below. */
    private static void sharesAre(String of, CrossTable x, int... want) {
        Due.is(of + ": rows", x.count(2), want.length / 2);
        for (int i = 0; i < want.length / 2; i++) {
            Due.is(of + ": share(" + i + ") above", x.share(i, true), want[2 * i]);
            Due.is(of + ": share(" + i + ") below", x.share(i, false), want[2 * i + 1]);
        }
        Due.is(of + ": share behind", x.share(want.length / 2, true), Due.UNKNOWN);
    }

    private static void shareOfSixRows() {
        Due.sentence(0, "SHARE of a ROW (by its place): if ROWS come one by one, in each order as likely: by how much in the mean "
                + "MEASURE of all ENTRIES of those that have come is more when it has come than it was (NONE counts 0): a FRACTION.");
        int[] amounts = {0, 10, 20, 30, 40, 50};
        sharesAre("count", bins("vacount.01", amounts), 1, 1, 1, 1, 1, 1, 1, 1, 1, 1, 1, 1);
        sharesAre("sum", bins("vasum.01", amounts), 0, 1, 10, 1, 20, 1, 30, 1, 40, 1, 50, 1);
        sharesAre("most", bins("vamost.01", amounts), 0, 1, 2, 1, 9, 2, 47, 6, 77, 6, 137, 6);
    }

    private static void shareOfTheMissing() {
        int[] amounts = {3, 10, 20, 30, 40, 100};
        sharesAre("most", bins("vamost.01", amounts), 3, 5, 47, 20, 341, 60, 641, 60, 1241, 60, 0, 1);
        sharesAre("least", bins("valeast.01", amounts), -59, 6, -17, 6, 13, 6, 11, 2, 8, 1, 0, 1);
        sharesAre("only the missing", bins("valeast.01", 100, 100), 0, 1);
        sharesAre("sum of only the missing", bins("vasum.01", 100), 0, 1);
        sharesAre("count of only the missing", bins("vacount.01", 100, 100), 2, 1);
        sharesAre("one row", bins("valeast.01", 96, 99), 96, 1);
    }

    private static void shareByPlace() {
        CrossTable x = Due.planned("bakinds.01");
        Due.fill(x, 0, 0, 4, 0, 1, 4, 0, 2, 4, 1, 2, 5, 0, 3, 100, 0, 4, 5);
        sharesAre("kinds", x, 1, 3, 1, 3, 5, 6, 0, 1, 1, 2);
        CrossTable far = Due.planned("absum.01");
        Due.fill(far, 1, 0, 7, 3, 0, 9);
        sharesAre("places, not keys", far, 7, 1, 9, 1);
        Due.is("share(3)", far.share(3, true), Due.UNKNOWN);
    }

    private static void shareOfTheRest() {
        CrossTable x = bins("vasum.41", 5, 10, 15, 20, 25, 30, 35, 100);
        sharesAre("four and the rest", x, 20, 1, 25, 1, 30, 1, 35, 1, 30, 1);
        Due.retell(x, "vamost.11");
        x.plan();
        sharesAre("one and the rest", x, 20, 1, 15, 1);
    }

    private static void shareRefuses() {
        Due.sentence(23, "UNKNOWN: there is none such; FULL.");
        CrossTable x = Due.planned("vasum.01");
        for (int i : new int[] {Integer.MIN_VALUE, -1, 0, 1, Integer.MAX_VALUE}) {
            Due.is("share(" + i + ") of nothing", x.share(i, true), Due.UNKNOWN);
            Due.is("share(" + i + ") of nothing", x.share(i, false), Due.UNKNOWN);
        }
        Due.fill(x, 0, 0, 0, 0, 0, 10, 0, 0, 20, 0, 0, 30, 0, 0, 40, 0, 0, 50, 0, 0, 51);
        Due.sentence(23, "SHARE of ROW i.");
        Due.is("six rows", x.share(5, true), 101);
        Due.sentence(0, "(It is FULL, if there are more than 6 ROWS.)");
        x.add(0, 0, 100);
        for (int i = 0; i <= 6; i++) {
            Due.is("seven rows, above", x.share(i, true), Due.FULL);
            Due.is("seven rows, below", x.share(i, false), Due.FULL);
        }
        for (int i : new int[] {Integer.MIN_VALUE, -1, 7, 8, Integer.MAX_VALUE}) {
            Due.is("seven rows, share(" + i + ")", x.share(i, true), Due.UNKNOWN);
        }
        x.undo();
        Due.is("six rows again", x.share(0, false), 1);
    }

    private static void lostIs(CrossTable x, int v, int tenths, int above, int below) {
        Due.is("lost(" + v + ", " + tenths + ") above", x.lost(v, tenths, true), above);
        Due.is("lost(" + v + ", " + tenths + ") below", x.lost(v, tenths, false), below);
    }

    private static void lostNotAtAllOrSurely() {
        Due.sentence(0, "LOST: each ROW is lost by x tenths (0 to 10), by itself: that MEASURE of all ENTRIES of the others is "
                + "v (0 to 999) or more (NONE is not): a FRACTION.");
        CrossTable x = bins("vasum.01", 10, 20);
        lostIs(x, 0, 0, 1, 1);
        lostIs(x, 30, 0, 1, 1);
        lostIs(x, 31, 0, 0, 1);
        lostIs(x, 0, 10, 0, 1);
        lostIs(x, 30, 10, 0, 1);
        lostIs(x, 0, 1, 99, 100);
        lostIs(x, 0, 9, 19, 100);
        lostIs(x, 20, 9, 1, 10);
        lostIs(x, 21, 9, 1, 100);
        lostIs(x, 11, 2, 4, 5);
    }

    private static void lostOfNoneIsNot() {
        Due.sentence(24, "LOST.");
        lostIs(new CrossTable(), 0, 0, 0, 1);
        lostIs(new CrossTable(), 0, 10, 0, 1);
        CrossTable most = bins("vamost.01", 100, 0);
        lostIs(most, 0, 0, 1, 1);
        lostIs(most, 0, 3, 7, 10);
        lostIs(most, 1, 3, 0, 1);
        CrossTable missing = bins("valeast.01", 100);
        lostIs(missing, 0, 0, 0, 1);
        CrossTable sum = bins("vasum.01", 100);
        lostIs(sum, 0, 3, 7, 10);
    }

    private static void lostThatOrMore() {
        CrossTable x = bins("a-sum.01", 99, 99, 99, 99, 99, 99, 99, 99, 99, 99, 9);
        lostIs(x, 999, 3, 7, 10);
        x.change(10, 8);
        lostIs(x, 999, 3, 0, 1);
        lostIs(x, 998, 3, 7, 10);
        CrossTable least = bins("valeast.01", 3, 10, 20, 30, 40, 100);
        lostIs(least, 0, 3, 99757, 100000);
        lostIs(least, 3, 3, 99757, 100000);
        lostIs(least, 4, 3, 29757, 100000);
        lostIs(least, 40, 3, 567, 100000);
        lostIs(least, 41, 3, 0, 1);
    }

    private static void lostOfSixRows() {
        CrossTable x = bins("vacount.01", 3, 10, 20, 30, 40, 100);
        lostIs(x, 0, 7, 882351, 1000000);
        lostIs(x, 1, 7, 882351, 1000000);
        lostIs(x, 6, 7, 729, 1000000);
        lostIs(x, 7, 7, 0, 1);
        lostIs(x, 3, 5, 21, 32);
        lostIs(x, 5, 1, 177147, 200000);
        Due.sentence(0, "(FULL likewise.)");
        x.add(0, 0, 99);
        for (int tenths = 0; tenths <= 10; tenths++) {
            lostIs(x, 0, tenths, Due.FULL, Due.FULL);
        }
        Due.retell(x, "vacount.41");
        x.plan();
        lostIs(x, 7, 0, 1, 1);
    }

    private static void lostRefuses() {
        Due.sentence(24, "OUTSIDE: v, x; FULL.");
        CrossTable x = bins("vasum.01", 10, 20);
        for (int v : new int[] {Integer.MIN_VALUE, -9, -1, 1000, Integer.MAX_VALUE}) {
            lostIs(x, v, 0, Due.OUTSIDE, Due.OUTSIDE);
        }
        for (int tenths : new int[] {Integer.MIN_VALUE, -1, 11, Integer.MAX_VALUE}) {
            lostIs(x, 0, tenths, Due.OUTSIDE, Due.OUTSIDE);
        }
        lostIs(x, 999, 10, 0, 1);
    }

    private static void seed() {
        Due.sentence(25, "THE SEED is v: what it was.");
        CrossTable x = new CrossTable();
        Due.is("0 at first", x.seed(Long.MIN_VALUE), 0L);
        Due.is("the least long", x.seed(Long.MAX_VALUE), Long.MIN_VALUE);
        Due.is("the greatest long", x.seed(-1L), Long.MAX_VALUE);
        Due.is("-1", x.seed(1L << 40), -1L);
        Due.is("more than an int", x.seed(0L), 1L << 40);
    }

    /** From no entries, by sums: what 1, 2, 3 and 20 draws tell together, and the seed behind 20. */
    private static void drawnIs(long seed, int one, int two, int three, int twenty, long then) {
        int[] draws = {1, 2, 3, 20};
        int[] want = {one, two, three, twenty};
        CrossTable x = Due.planned("absum.01");
        for (int i = 0; i < draws.length; i++) {
            x.seed(seed);
            Due.is("drawn(" + draws[i] + ") by " + seed, x.drawn(draws[i]), want[i]);
        }
        Due.is("the seed then, by " + seed, x.seed(0), then);
    }

    private static void drawnBySeeds() {
        Due.sentence(0, "DRAWN by THE SEED: m times (1 to 20) x (THE SEED, a long; 0 at first) becomes x times 6364136223846793005 "
                + "and 1442695040888963407 (64 bits, wrapping); of its upper 31 bits what is left by 4 is a TOWN, that by 4 (cut), "
                + "left by 5, a WARE, that by 32 (cut), left by 101, an AMOUNT (100: none):");
        drawnIs(0L, 28, 71, 171, 11174, 7571309944655988996L);
        drawnIs(1L, 88, 258, 492, 10853, 3748899703585450325L);
        drawnIs(2L, 47, 143, 310, 11410, -73510537485088346L);
        drawnIs(-1L, 90, 248, 456, 11166, -7053023887983023949L);
        drawnIs(Long.MAX_VALUE, 80, 218, 396, 10772, 2170348148871751859L);
        drawnIs(Long.MIN_VALUE, 38, 101, 211, 8882, -1652062092198786812L);
        drawnIs(133L, 0, 38, 117, 7528, -2747162127567760615L);
        drawnIs(135L, 99, 251, 458, 10356, 8054761464000713659L);
        drawnIs(355L, 0, 0, 71, 9969, -2772008254587971241L);
        CrossTable first = Due.planned("absum.01");
        Due.is("0 at first", first.drawn(1), 28);
        Due.is("it goes on from there", first.drawn(1), 15);
        Due.is("and from there", first.drawn(1), 57);
    }

    /** By 355 two come without an amount, then 71; by 133 comes 0, then 38. */
    private static void drawnWithoutAmounts() {
        String[] words = {"count", "sum", "most", "least", "kinds"};
        int[] missing = {3, 0, 0, 0, 0};
        int[] missingThen71 = {6, 71, 71, 71, 1};
        int[] zero = {1, 0, 0, 0, 1};
        for (int i = 0; i < words.length; i++) {
            CrossTable x = Due.planned("ab" + words[i] + ".01");
            x.seed(355);
            Due.is(words[i] + " of two missing", x.drawn(2), missing[i]);
            x.seed(355);
            Due.is(words[i] + " of two missing, then 71", x.drawn(3), missingThen71[i]);
            x.seed(133);
            Due.is(words[i] + " of 0", x.drawn(1), zero[i]);
        }
    }

    private static CrossTable falling(int many) {
        CrossTable x = Due.planned("absum.01");
        for (int i = 0; i < many; i++) {
            x.add(i % 4, i % 5, 99 - i);
        }
        return x;
    }

    private static void drawnIntoAFullTable() {
        Due.sentence(0, "ADDED, if there is room, else the first ENTRY is DROPPED: TOTAL (NONE counts 0), each time, together.");
        int[] draws = {1, 2, 3, 4, 20};
        // 1464 is the sum of all: 99 goes, 15 comes, 98 goes, 78 comes, and so on
        int[] byFull = {1365, 2745, 4027, 5387, 24858};
        CrossTable full = falling(16);
        for (int i = 0; i < draws.length; i++) {
            full.seed(0);
            Due.is("drawn(" + draws[i] + ") by sixteen", full.drawn(draws[i]), byFull[i]);
        }
        int[] room = {1, 2, 3, 20};
        // 1380 is the sum of all: 28 comes, 99 goes, 57 comes, and so on
        int[] byFifteen = {1408, 2717, 4083, 23549};
        CrossTable fifteen = falling(15);
        for (int i = 0; i < room.length; i++) {
            fifteen.seed(0);
            Due.is("drawn(" + room[i] + ") by fifteen", fifteen.drawn(room[i]), byFifteen[i]);
        }
    }

    private static void drawnOutside() {
        Due.sentence(26, "OUTSIDE: m.");
        CrossTable x = new CrossTable();
        x.seed(2);
        for (int m : new int[] {Integer.MIN_VALUE, -1, 0, 21, Integer.MAX_VALUE}) {
            Due.is("drawn(" + m + ")", x.drawn(m), Due.OUTSIDE);
        }
        Due.is("the seed stays", x.seed(2), 2);
        Due.sentence(26, "DRAWN.");
        Due.is("the fewest", x.drawn(1), 1);
        Due.is("the most: 16, then 15 and 16 in turn", x.drawn(20), 136 + 15 + 16 + 15 + 16);
    }

    private static void drawnLeavesAllElse() {
        Due.sentence(0, "(Nothing changes but THE SEED.)");
        for (int many : new int[] {0, 5, 15, 16}) {
            CrossTable x = falling(many);
            CrossTable y = falling(many);
            x.see(0, 7, 0);
            y.see(0, 7, 0);
            x.drawn(20);
            y.seed(7571309944655988996L);
            Due.alike("drawn(20) by " + many, x, y);
        }
    }
}
