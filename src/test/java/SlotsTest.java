/** Promises 27 to 29: keep, again, count. */
public final class SlotsTest {
    public static void main(String[] args) {
        keepAndAgain();
        againLeavesAllElse();
        refuses();
        count();
        Due.end("SlotsTest");
    }

    private static void keepAndAgain() {
        CrossTable x = new CrossTable();
        Due.is("keep nothing", x.keep(1), 0);
        Due.fill(x, 0, 1, 2, 3, 4, 100);
        Due.is("keep two", x.keep(0), 2);
        Due.is("acts stay", x.count(6), 2);
        Due.is("undo after keep", x.undo(), 1);
        x.add(1, 1, 1);
        x.change(0, 50);
        Due.is("again", x.again(0), 2);
        Due.same("again", Due.stateOf(x), "0,1,2 3,4,100 acts 0 seen 0 letters 0 word 99");
        Due.is("no acts", x.undo(), Due.STATE);
        x.change(0, 77);
        x.drop(1);
        Due.is("what is kept stays", x.again(0), 2);
        Due.is("its amount", x.entry(0, 2), 2);
        Due.is("again nothing", x.again(1), 0);
        Due.is("entries", x.count(1), 0);
        Due.is("keep over it", x.keep(0), 0);
        Due.is("again nothing", x.again(0), 0);
        for (int i = 0; i < 16; i++) {
            x.add(i % 4, i % 5, i);
        }
        Due.is("keep sixteen", x.keep(1), 16);
        x.again(0);
        Due.is("again sixteen", x.again(1), 16);
        Due.is("the last of them", x.entry(15, 2), 15);
    }

    private static void againLeavesAllElse() {
        CrossTable x = Due.planned("abkinds.01");
        x.add(0, 0, 0);
        x.see(0, 1, 1);
        x.seed(12);
        x.keep(0);
        Due.retell(x, "absum.02");
        x.plan();
        x.see(1, 1, 1);
        x.seed(13);
        x.again(0);
        Due.is("the plan stays", x.word(0), 's');
        Due.is("seen stays", x.count(7), 2);
        Due.is("the text stays", x.count(0), 8);
        Due.is("the seed stays", x.seed(0), 13);
    }

    private static void refuses() {
        CrossTable x = new CrossTable();
        Due.is("keep(-1)", x.keep(-1), Due.UNKNOWN);
        Due.is("keep(2)", x.keep(2), Due.UNKNOWN);
        Due.is("again(-1)", x.again(-1), Due.UNKNOWN);
        Due.is("again(2)", x.again(2), Due.UNKNOWN);
        x.add(0, 0, 0);
        Due.is("again(1), none kept", x.again(1), Due.STATE);
        Due.is("entries stay", x.count(1), 1);
        Due.is("acts stay", x.count(6), 1);
        x.keep(0);
        Due.is("again(1), another kept", x.again(1), Due.STATE);
    }

    private static void counts(CrossTable x, int... want) {
        for (int what = 0; what < want.length; what++) {
            Due.is("count(" + what + ")", x.count(what), want[what]);
        }
    }

    private static void count() {
        CrossTable x = Due.planned("bacount.11");
        Due.fill(x, 0, 0, 100, 0, 0, 5, 1, 1, 100, 2, 3, 6, 0, 1, 0);
        x.see(0, 0, 0);
        // rows 0 and the rest; columns 0, 1, 2; row 0 has column 0 alone
        counts(x, 10, 5, 2, 3, 4, 2, 5, 1);
        Due.retell(x, "v-least.01");
        x.plan();
        counts(x, 10, 5, 3, 1, 3, 2, 5, 1);
        x.drop(0);
        x.drop(1);
        counts(x, 10, 3, 2, 1, 2, 0, 7, 1);
        x.undo();
        counts(x, 10, 4, 3, 1, 3, 1, 6, 1);
        Due.is("count(-1)", x.count(-1), Due.OUTSIDE);
        Due.is("count(8)", x.count(8), Due.OUTSIDE);
        Due.is("count(max)", x.count(Integer.MAX_VALUE), Due.OUTSIDE);
        counts(Due.planned("a-sum.01"), 8, 0, 0, 0, 0, 0, 0, 0);
    }
}
