/** Promises 17 to 19: would, best, judge. */
public final class WouldTest {
    public static void main(String[] args) {
        would();
        best();
        judgeTells();
        judgeActs();
        judgeActsWhenFull();
        judgeIsNotSo();
        Due.end("WouldTest");
    }

    private static void would() {
        CrossTable x = Due.planned("vasum.21");
        Due.is("would of nothing", x.would(0, 0, 7, 0), 7);
        Due.is("rows then", x.would(0, 0, 7, 1), 1);
        Due.fill(x, 0, 0, 1, 0, 0, 11);
        String was = Due.stateOf(x);
        Due.is("total then", x.would(3, 4, 99, 0), 111);
        Due.is("rows then", x.would(3, 4, 99, 1), 3);
        Due.is("rows then, in a bin there is", x.would(3, 4, 2, 1), 2);
        Due.is("without an amount", x.would(3, 4, 100, 0), 12);
        Due.is("town", x.would(4, 0, 0, 0), Due.OUTSIDE);
        Due.is("town", x.would(-1, 0, 0, 0), Due.OUTSIDE);
        Due.is("ware", x.would(0, 5, 0, 0), Due.OUTSIDE);
        Due.is("ware", x.would(0, -1, 0, 0), Due.OUTSIDE);
        Due.is("amount", x.would(0, 0, 101, 0), Due.OUTSIDE);
        Due.is("amount", x.would(0, 0, -1, 0), Due.OUTSIDE);
        Due.is("what", x.would(0, 0, 0, 2), Due.OUTSIDE);
        Due.is("what", x.would(0, 0, 0, -1), Due.OUTSIDE);
        Due.same("would", Due.stateOf(x), was);
        for (int i = 2; i < 16; i++) {
            x.add(1, 1, 1);
        }
        Due.is("would when full", x.would(0, 0, 0, 0), Due.FULL);
        Due.is("would when full, outside", x.would(0, 0, 0, 2), Due.OUTSIDE);
    }

    private static void best() {
        CrossTable x = Due.planned("ableast.01");
        Due.is("best of nothing", x.best(0), Due.NONE);
        Due.is("best of nothing", x.best(1), Due.NONE);
        Due.is("best of nothing, outside", x.best(2), Due.OUTSIDE);
        x.add(0, 0, 50);
        Due.is("best of one", x.best(0), 0);
        Due.is("nothing is left then", x.best(1), Due.NONE);
        Due.fill(x, 0, 0, 3, 0, 0, 9, 0, 0, 60);
        Due.is("the least", x.best(0), 1);
        Due.is("total then", x.best(1), 9);
        Due.is("best(-1)", x.best(-1), Due.OUTSIDE);
        Due.is("entries stay", x.count(1), 4);
        Due.is("acts stay", x.count(6), 4);
        CrossTable like = Due.planned("absum.01");
        Due.fill(like, 0, 0, 5, 0, 0, 2, 0, 0, 2);
        Due.is("of like ones the first", like.best(0), 1);
        Due.is("total then", like.best(1), 7);
        CrossTable none = Due.planned("abmost.01");
        Due.fill(none, 0, 0, 8, 1, 1, 100);
        Due.is("NONE is less than all", none.best(0), 1);
        Due.is("total then", none.best(1), 8);
        none.change(0, 0);
        Due.is("NONE is less than 0", none.best(0), 1);
        none.change(0, 100);
        Due.is("all NONE: the first", none.best(0), 0);
        Due.is("total then", none.best(1), Due.NONE);
    }

    private static CrossTable sample() {
        CrossTable x = Due.planned("absum.01");
        Due.fill(x, 0, 0, 10, 1, 0, 20, 1, 2, 100);
        return x;
    }

    private static void judge(CrossTable x, int n, long row, int want) {
        String was = Due.stateOf(x);
        Due.is("judge(" + n + ", " + row + ")", x.judge(n, row), want);
        Due.same("judge(" + n + ", " + row + ")", Due.stateOf(x), was);
    }

    private static void judgeTells() {
        CrossTable x = sample();
        judge(x, 0, 0L, Due.OUTSIDE);
        judge(x, 5, 0L, Due.OUTSIDE);
        judge(x, Integer.MIN_VALUE, 0L, Due.OUTSIDE);
        judge(x, Integer.MAX_VALUE, 0L, Due.OUTSIDE);
        judge(x, 1, -1L, Due.OUTSIDE);
        judge(x, 1, 10000L, Due.OUTSIDE);
        judge(x, 4, 10000000000000000L, Due.OUTSIDE);
        judge(x, 4, Long.MAX_VALUE, Due.OUTSIDE);
        judge(x, 4, Long.MIN_VALUE, Due.OUTSIDE);
        judge(x, 1, 9999L, 0);
        judge(x, 4, 9999999999999999L, 0);
        judge(x, 1, 0L, 0);
        judge(x, 1, 7000L, 0);
        judge(x, 2, 4000L, 0);
        judge(x, 2, 40004000L, Due.NONE);
        judge(x, 3, 400040000000L, 2);
        judge(x, 4, 4000400040008000L, 3);
    }

    private static void judgeActs() {
        CrossTable x = sample();
        judge(x, 2, 1_349_6_0_99L, Due.NONE);
        judge(x, 1, 1409L, 0);
        judge(x, 1, 1059L, 0);
        judge(x, 1, 2002L, Due.NONE);
        judge(x, 1, 2003L, 0);
        judge(x, 1, 2102L, 0);
        judge(x, 4, 2000200020002000L, 3);
        judge(x, 2, 2000_6021L, 1);
        judge(x, 2, 2000_6020L, Due.NONE);
        judge(x, 2, 39026099L, Due.NONE);
        judge(x, 1, 3903L, 0);
        judge(x, 2, 3000_6021L, 1);
        judge(x, 2, 3000_6020L, Due.NONE);
        judge(x, 2, 3100_6031L, Due.NONE);
        judge(x, 2, 3100_6032L, 1);
    }

    private static void judgeActsWhenFull() {
        long[][] judged = {{1, 1000L, 0}, {2, 20151000L, Due.NONE}, {3, 201510001000L, 2}, {1, 2015L, Due.NONE},
            {1, 2016L, 0}, {1, 2099L, 0}, {1, 3016L, 0}};
        for (long[] one : judged) {
            CrossTable x = sample();
            for (int i = 3; i < 16; i++) {
                x.add(2, 2, 1);
            }
            judge(x, (int) one[0], one[1], (int) one[2]);
        }
    }

    private static void judgeIsNotSo() {
        CrossTable x = sample();
        judge(x, 1, 4002L, Due.NONE);
        judge(x, 1, 4003L, 0);
        judge(x, 1, 4012L, 0);
        judge(x, 1, 4102L, 0);
        judge(x, 2, 12004003L, Due.NONE);
        judge(x, 1, 5109L, Due.NONE);
        judge(x, 1, 5120L, Due.NONE);
        judge(x, 1, 5121L, 0);
        judge(x, 1, 5010L, 0);
        judge(x, 1, 5990L, 0);
        judge(x, 1, 6030L, Due.NONE);
        judge(x, 1, 6031L, 0);
        judge(x, 1, 6130L, 0);
        CrossTable empty = new CrossTable();
        judge(empty, 1, 4000L, Due.NONE);
        judge(empty, 1, 6000L, 0);
        judge(empty, 1, 5000L, 0);
        judge(empty, 3, 100020006000L, 2);
        CrossTable top = Due.planned("abcount.11");
        Due.fill(top, 0, 0, 1, 1, 0, 1, 1, 0, 1);
        judge(top, 1, 5102L, Due.NONE);
        judge(top, 1, 5000L, 0);
        judge(top, 3, 100010005003L, Due.NONE);
    }
}
