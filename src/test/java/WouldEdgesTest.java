/** The edges of WOULD, BEST and JUDGED, and of promises 17 to 19. */
public final class WouldEdgesTest {
    private static final int[] FAR = {Integer.MIN_VALUE, -9, -1, 101, 256, Integer.MAX_VALUE};

    public static void main(String[] args) {
        wouldMakeRows();
        wouldOfNothing();
        wouldRefuses();
        wouldBeTheSixteenth();
        bestOfOne();
        bestOfLikeOnes();
        noneIsLessThanAll();
        bestOfAll();
        bestRefuses();
        figures();
        figuresOutside();
        added();
        dropped();
        changed();
        rowsOrMore();
        cellOrMore();
        totalOrMore();
        noDoing();
        firstPlaceTold();
        doingsComeOneByOne();
        Due.end("WouldEdgesTest");
    }

    private static void wouldMakeRows() {
        Due.sentence(0, "WOULD an ENTRY be ADDED: TOTAL then; how many ROWS there are then.");
        CrossTable x = Due.planned("absum.21");
        Due.fill(x, 0, 0, 5, 1, 0, 5);
        Due.is("a row that there is", x.would(1, 4, 9, 1), 2);
        Due.is("n groups and one more: the rest", x.would(2, 4, 9, 1), 3);
        x.add(2, 0, 5);
        Due.is("one more of the rest", x.would(3, 0, 5, 1), 3);
        Due.is("total with the rest", x.would(3, 0, 5, 0), 20);
        Due.retell(x, "vasum.01");
        x.plan();
        Due.is("the bin of the missing", x.would(0, 0, 100, 1), 2);
        Due.is("the same bin", x.would(0, 0, 9, 1), 1);
        Due.is("the next bin", x.would(0, 0, 10, 1), 2);
        Due.is("the bin before", x.would(0, 0, 4, 1), 2);
    }

    private static void wouldOfNothing() {
        Due.sentence(17, "WOULD: TOTAL (what = 0), ROWS (1).");
        String[] words = {"count", "sum", "most", "least", "kinds"};
        int[] ofMissing = {1, 0, Due.NONE, Due.NONE, 0};
        int[] ofZero = {1, 0, 0, 0, 1};
        int[] of99 = {1, 99, 99, 99, 1};
        for (int i = 0; i < words.length; i++) {
            CrossTable x = Due.planned("ab" + words[i] + ".01");
            Due.is(words[i] + " with a missing", x.would(0, 0, 100, 0), ofMissing[i]);
            Due.is(words[i] + " with 0", x.would(0, 0, 0, 0), ofZero[i]);
            Due.is(words[i] + " with 99", x.would(3, 4, 99, 0), of99[i]);
            Due.is(words[i] + " rows", x.would(3, 4, 100, 1), 1);
            Due.is("nothing is added", x.count(1), 0);
        }
    }

    private static void wouldRefuses() {
        Due.sentence(17, "OUTSIDE: town, ware, amount, what; FULL: there are 16.");
        CrossTable x = new CrossTable();
        Due.is("town 4", x.would(4, 0, 0, 0), Due.OUTSIDE);
        Due.is("ware 5", x.would(0, 5, 0, 0), Due.OUTSIDE);
        Due.is("what 2", x.would(0, 0, 0, 2), Due.OUTSIDE);
        for (int far : FAR) {
            Due.is("town " + far, x.would(far, 0, 0, 0), Due.OUTSIDE);
            Due.is("ware " + far, x.would(0, far, 0, 1), Due.OUTSIDE);
            Due.is("amount " + far, x.would(0, 0, far, 0), Due.OUTSIDE);
            Due.is("what " + far, x.would(0, 0, 0, far), Due.OUTSIDE);
        }
    }

    private static void wouldBeTheSixteenth() {
        CrossTable x = new CrossTable();
        for (int i = 0; i < 15; i++) {
            x.add(0, 0, 0);
        }
        Due.is("the sixteenth", x.would(1, 0, 0, 0), 16);
        Due.is("rows", x.would(1, 0, 0, 1), 2);
        x.add(0, 0, 0);
        Due.is("the seventeenth", x.would(1, 0, 0, 0), Due.FULL);
        Due.is("rows", x.would(1, 0, 0, 1), Due.FULL);
    }

    private static void bestIs(String of, CrossTable x, int which, int total) {
        Due.is(of + ": which", x.best(0), which);
        Due.is(of + ": total then", x.best(1), total);
    }

    private static CrossTable amounts(String word, int... amounts) {
        CrossTable x = Due.planned("ab" + word + ".01");
        for (int amount : amounts) {
            x.add(1, 1, amount);
        }
        return x;
    }

    private static void bestOfOne() {
        Due.sentence(0, "BEST: of all ENTRIES that by which, if it was DROPPED, TOTAL is greatest (NONE is less than all); "
                + "of like ones the first: which; TOTAL then.");
        bestIs("count of one", amounts("count", 5), 0, Due.NONE);
        bestIs("sum of one", amounts("sum", 5), 0, Due.NONE);
        bestIs("kinds of one missing", amounts("kinds", 100), 0, Due.NONE);
    }

    private static void bestOfLikeOnes() {
        bestIs("count", amounts("count", 1, 2, 3), 0, 2);
        bestIs("sum", amounts("sum", 9, 4, 4, 9), 1, 22);
        bestIs("sum, 0 and missing are like", amounts("sum", 9, 0, 100), 1, 9);
        bestIs("sum, missing and 0 are like", amounts("sum", 9, 100, 0), 1, 9);
        bestIs("most", amounts("most", 9, 9), 0, 9);
        bestIs("kinds", amounts("kinds", 1, 2, 2), 1, 2);
        bestIs("least", amounts("least", 3, 3, 8), 0, 3);
    }

    private static void noneIsLessThanAll() {
        bestIs("most, the only amount stays", amounts("most", 0, 100), 1, 0);
        bestIs("least, the only amount stays", amounts("least", 0, 100, 100), 1, 0);
        bestIs("most of the missing", amounts("most", 100, 100), 0, Due.NONE);
        bestIs("least of the missing", amounts("least", 100, 100, 100), 0, Due.NONE);
    }

    private static void bestOfAll() {
        Due.sentence(18, "BEST: which (what = 0), TOTAL (1); NONE: there are no ENTRIES.");
        bestIs("no entries", new CrossTable(), Due.NONE, Due.NONE);
        bestIs("the first of sixteen", amounts("sum", 1, 9, 9, 9, 9, 9, 9, 9, 9, 9, 9, 9, 9, 9, 9, 9), 0, 135);
        bestIs("the last of sixteen", amounts("sum", 9, 9, 9, 9, 9, 9, 9, 9, 9, 9, 9, 9, 9, 9, 9, 1), 15, 135);
        bestIs("least: the least goes", amounts("least", 50, 7, 60), 1, 50);
        CrossTable gone = amounts("sum", 5);
        gone.drop(0);
        bestIs("no entries any more", gone, Due.NONE, Due.NONE);
    }

    private static void bestRefuses() {
        Due.sentence(18, "OUTSIDE.");
        for (CrossTable x : new CrossTable[] {new CrossTable(), amounts("sum", 1, 2)}) {
            for (int what : new int[] {-1, 2, Integer.MIN_VALUE, Integer.MAX_VALUE}) {
                Due.is("best(" + what + ")", x.best(what), Due.OUTSIDE);
            }
        }
    }

    private static void judge(CrossTable x, int n, long row, int want) {
        Due.is("judge(" + n + ", " + row + ")", x.judge(n, row), want);
    }

    /** Three entries, of which the last has no amount; sum 30. */
    private static CrossTable sample() {
        CrossTable x = Due.planned("absum.01");
        Due.fill(x, 0, 0, 10, 1, 0, 20, 1, 2, 100);
        return x;
    }

    private static void figures() {
        Due.sentence(0, "JUDGED: n doings (1 to 4), told as four figures each");
        CrossTable x = sample();
        judge(x, 1, 4002L, Due.NONE);
        judge(x, 2, 4002_4002L, Due.NONE);
        judge(x, 3, 4002_4002_4002L, Due.NONE);
        judge(x, 4, 4002_4002_4002_4002L, Due.NONE);
        // figures that are missing ahead are 0
        judge(x, 1, 0L, 0);
        judge(x, 1, 9L, 0);
        judge(x, 2, 4002L, 0);
        judge(x, 4, 4002_4002_4002L, 0);
        judge(x, 2, 0L, 0);
    }

    private static void figuresOutside() {
        Due.sentence(19, "OUTSIDE: n, row (0 or more, 4 n figures at most).");
        CrossTable x = sample();
        judge(x, 0, 0L, Due.OUTSIDE);
        judge(x, 5, 4002L, Due.OUTSIDE);
        judge(x, -1, 4002L, Due.OUTSIDE);
        judge(x, Integer.MIN_VALUE, 4002L, Due.OUTSIDE);
        judge(x, Integer.MAX_VALUE, 4002L, Due.OUTSIDE);
        long most = 9999L;
        for (int n = 1; n <= 4; n++) {
            judge(x, n, most, 0);
            judge(x, n, most + 1, Due.OUTSIDE);
            judge(x, n, most + 2, Due.OUTSIDE);
            judge(x, n, -1L, Due.OUTSIDE);
            judge(x, n, -4002L, Due.OUTSIDE);
            judge(x, n, Long.MIN_VALUE, Due.OUTSIDE);
            judge(x, n, Long.MAX_VALUE, Due.OUTSIDE);
            most = most * 10000 + 9999;
        }
    }

    private static void added() {
        Due.sentence(0, "(1, a TOWN, a WARE, v: ADDED with 11 times v;");
        CrossTable x = sample();
        judge(x, 2, 1000_6030L, Due.NONE);
        judge(x, 2, 1000_6031L, 1);
        judge(x, 2, 1344_6074L, Due.NONE);
        judge(x, 2, 1344_6075L, 1);
        judge(x, 2, 1349_6099L, Due.NONE);
        judge(x, 2, 1345_5349L, Due.NONE);
        judge(x, 1, 1400L, 0);
        judge(x, 1, 1900L, 0);
        judge(x, 1, 1050L, 0);
        judge(x, 1, 1090L, 0);
        // 0 times 11 is an amount, not a missing one
        CrossTable most = Due.planned("abmost.01");
        judge(most, 2, 1000_6000L, Due.NONE);
        for (int i = 0; i < 12; i++) {
            most.add(0, 0, 0);
        }
        judge(most, 4, 1000_1000_1000_1000L, Due.NONE);
        most.add(0, 0, 0);
        judge(most, 4, 1000_1000_1000_1000L, 3);
    }

    private static void dropped() {
        Due.sentence(0, "2, 0, two figures: DROPPED;");
        CrossTable x = sample();
        judge(x, 1, 2002L, Due.NONE);
        judge(x, 1, 2003L, 0);
        judge(x, 1, 2099L, 0);
        judge(x, 1, 2102L, 0);
        judge(x, 1, 2900L, 0);
        judge(x, 2, 2000_6020L, Due.NONE);
        judge(x, 2, 2000_6021L, 1);
        // those behind it come up
        judge(x, 2, 2000_2002L, 1);
        judge(x, 3, 2000_2000_6000L, Due.NONE);
        judge(x, 4, 2000_2000_2000_6000L, 3);
        for (int i = 3; i < 16; i++) {
            x.add(2, 2, 0);
        }
        judge(x, 1, 2015L, Due.NONE);
        judge(x, 1, 2016L, 0);
        judge(x, 2, 2010_2015L, 1);
    }

    private static void changed() {
        Due.sentence(0, "3, v, two figures: CHANGED to 11 times v;");
        CrossTable x = sample();
        judge(x, 1, 3002L, Due.NONE);
        judge(x, 1, 3003L, 0);
        judge(x, 1, 3999L, 0);
        judge(x, 2, 3902_6099L, Due.NONE);
        judge(x, 2, 3000_6020L, Due.NONE);
        judge(x, 2, 3000_6021L, 1);
        judge(x, 2, 3101_6021L, Due.NONE);
        judge(x, 2, 3101_6022L, 1);
        for (int i = 3; i < 16; i++) {
            x.add(2, 2, 0);
        }
        judge(x, 2, 3415_6074L, Due.NONE);
        judge(x, 2, 3415_6075L, 1);
        judge(x, 1, 3416L, 0);
    }

    private static void rowsOrMore() {
        Due.sentence(0, "4, 0, 0, v: there are v ROWS or more;");
        CrossTable x = sample();
        judge(new CrossTable(), 1, 4000L, Due.NONE);
        judge(new CrossTable(), 1, 4001L, 0);
        judge(x, 1, 4000L, Due.NONE);
        judge(x, 1, 4002L, Due.NONE);
        judge(x, 1, 4003L, 0);
        judge(x, 1, 4009L, 0);
        judge(x, 1, 4010L, 0);
        judge(x, 1, 4100L, 0);
        judge(x, 2, 1200_4003L, Due.NONE);
        judge(x, 2, 2000_4002L, 1);
        CrossTable top = Due.planned("abcount.11");
        Due.fill(top, 0, 0, 0, 1, 0, 0, 2, 0, 0, 3, 0, 0);
        judge(top, 1, 4002L, Due.NONE);
        judge(top, 1, 4003L, 0);
    }

    private static void cellOrMore() {
        Due.sentence(0, "5, two KEYS by one figure each, v: MEASURE of that CELL is v or more;");
        CrossTable x = sample();
        judge(x, 1, 5109L, Due.NONE);
        judge(x, 1, 5120L, Due.NONE);
        judge(x, 1, 5121L, 0);
        judge(x, 1, 5010L, 0);
        judge(x, 1, 5200L, 0);
        judge(x, 1, 5990L, 0);
        judge(new CrossTable(), 1, 5000L, 0);
        CrossTable count = Due.planned("bacount.01");
        Due.fill(count, 3, 4, 0, 3, 4, 0);
        judge(count, 1, 5432L, Due.NONE);
        judge(count, 1, 5433L, 0);
        judge(count, 1, 5342L, 0);
        CrossTable most = Due.planned("v-most.02");
        Due.fill(most, 0, 0, 99, 0, 0, 100);
        judge(most, 1, 5909L, Due.NONE);
        judge(most, 1, 5200L, 0);
        CrossTable top = Due.planned("abcount.11");
        Due.fill(top, 0, 0, 0, 1, 0, 0, 1, 0, 0);
        judge(top, 1, 5102L, Due.NONE);
        judge(top, 1, 5000L, 0);
    }

    private static void totalOrMore() {
        Due.sentence(0, "6, 0, two figures: TOTAL is that or more):");
        CrossTable x = sample();
        judge(x, 1, 6000L, Due.NONE);
        judge(x, 1, 6030L, Due.NONE);
        judge(x, 1, 6031L, 0);
        judge(x, 1, 6130L, 0);
        judge(x, 1, 6900L, 0);
        judge(new CrossTable(), 1, 6000L, 0);
        CrossTable most = Due.planned("abmost.01");
        most.add(0, 0, 100);
        judge(most, 1, 6000L, 0);
        most.change(0, 0);
        judge(most, 1, 6000L, Due.NONE);
        most.change(0, 99);
        judge(most, 1, 6099L, Due.NONE);
    }

    private static void noDoing() {
        Due.sentence(0, "the place of the first that can not be (or is not so); NONE: none.");
        CrossTable x = sample();
        for (long kind : new long[] {0, 7, 8, 9}) {
            judge(x, 1, 1000 * kind, 0);
            judge(x, 1, 1000 * kind + 1, 0);
            judge(x, 1, 1000 * kind + 999, 0);
            judge(x, 2, 4000_0000L + 1000 * kind, 1);
        }
    }

    private static void firstPlaceTold() {
        Due.sentence(19, "JUDGED; NONE.");
        CrossTable x = sample();
        judge(x, 4, 9999_9999_9999_9999L, 0);
        judge(x, 4, 4000_9999_9999_9999L, 1);
        judge(x, 4, 4000_4000_9999_9999L, 2);
        judge(x, 4, 4000_4000_4000_9999L, 3);
        judge(x, 4, 4000_4000_4000_4000L, Due.NONE);
        judge(x, 4, 4000_9999_4000_4000L, 1);
    }

    private static void doingsComeOneByOne() {
        CrossTable x = sample();
        judge(x, 4, 1341_2000_3902_6099L, Due.NONE);
        judge(x, 4, 1341_2000_3902_4003L, 3);
        judge(x, 3, 1341_2003_2003L, 2);
        judge(x, 2, 2002_1341L, Due.NONE);
        // each call begins anew
        judge(x, 3, 2000_2000_2000L, Due.NONE);
        judge(x, 3, 2000_2000_2000L, Due.NONE);
        Due.entriesAre("nothing is done", x, 0, 0, 10, 1, 0, 20, 1, 2, 100);
    }
}
