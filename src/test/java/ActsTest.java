/** Promises 7 to 10: add, drop, change, undo. */
public final class ActsTest {
    public static void main(String[] args) {
        add();
        drop();
        change();
        undo();
        undoTakesMeasuresBack();
        firstActIsForgotten();
        Due.end("ActsTest");
    }

    private static void add() {
        CrossTable x = new CrossTable();
        Due.is("add", x.add(3, 4, 99), 1);
        Due.is("add without an amount", x.add(0, 0, 100), 2);
        Due.is("town -1", x.add(-1, 0, 0), Due.OUTSIDE);
        Due.is("town 4", x.add(4, 0, 0), Due.OUTSIDE);
        Due.is("ware -1", x.add(0, -1, 0), Due.OUTSIDE);
        Due.is("ware 5", x.add(0, 5, 0), Due.OUTSIDE);
        Due.is("amount -1", x.add(0, 0, -1), Due.OUTSIDE);
        Due.is("amount 101", x.add(0, 0, 101), Due.OUTSIDE);
        Due.same("refused adds", Due.stateOf(x), "3,4,99 0,0,100 acts 2 seen 0 letters 0 word 99");
        for (int i = 3; i <= 16; i++) {
            Due.is("add " + i, x.add(1, 2, i), i);
        }
        Due.is("add 17", x.add(1, 2, 3), Due.FULL);
        Due.is("add 17, outside", x.add(1, 2, 101), Due.OUTSIDE);
        Due.is("entries", x.count(1), 16);
        Due.is("last entry", x.entry(15, 2), 16);
        x.drop(3);
        Due.is("add with room again", x.add(1, 2, 3), 16);
    }

    private static void drop() {
        CrossTable x = new CrossTable();
        Due.is("drop of nothing", x.drop(0), Due.UNKNOWN);
        Due.fill(x, 0, 0, 5, 1, 1, 100, 2, 2, 7, 3, 3, 8);
        Due.is("drop(-1)", x.drop(-1), Due.UNKNOWN);
        Due.is("drop(4)", x.drop(4), Due.UNKNOWN);
        Due.is("drop(max)", x.drop(Integer.MAX_VALUE), Due.UNKNOWN);
        Due.is("acts", x.count(6), 4);
        Due.is("drop one without an amount", x.drop(1), 100);
        Due.same("those behind come up", Due.stateOf(x), "0,0,5 2,2,7 3,3,8 acts 5 seen 0 letters 0 word 99");
        Due.is("drop the last", x.drop(2), 8);
        Due.is("drop the first", x.drop(0), 5);
        Due.same("one is left", Due.stateOf(x), "2,2,7 acts 7 seen 0 letters 0 word 99");
    }

    private static void change() {
        CrossTable x = Due.planned("absum.01");
        Due.is("change of nothing", x.change(0, 5), Due.UNKNOWN);
        Due.is("change of nothing, outside", x.change(0, 101), Due.UNKNOWN);
        Due.fill(x, 0, 0, 5, 1, 1, 100);
        Due.is("amount -1", x.change(0, -1), Due.OUTSIDE);
        Due.is("amount 101", x.change(0, 101), Due.OUTSIDE);
        Due.is("change(-1)", x.change(-1, 1), Due.UNKNOWN);
        Due.is("acts", x.count(6), 2);
        Due.is("change", x.change(1, 40), 100);
        Due.is("total", x.total(), 45);
        Due.is("change to none", x.change(0, 100), 5);
        Due.is("total", x.total(), 40);
        Due.is("to the same amount", x.change(0, 100), 100);
        Due.is("which is an act too", x.count(6), 5);
        Due.is("town stays", x.entry(1, 0), 1);
        Due.is("ware stays", x.entry(1, 1), 1);
    }

    private static void undo() {
        CrossTable x = new CrossTable();
        Due.is("undo of nothing", x.undo(), Due.STATE);
        Due.fill(x, 0, 0, 5, 1, 1, 100, 2, 2, 7);
        String three = Due.stateOf(x);
        x.drop(0);
        x.change(1, 3);
        x.drop(1);
        x.add(3, 4, 9);
        x.drop(0);
        Due.is("undo a drop", x.undo(), 7);
        Due.is("undo an add", x.undo(), 6);
        Due.is("undo a drop of the last", x.undo(), 5);
        Due.same("after three", Due.stateOf(x), "1,1,100 2,2,3 acts 5 seen 0 letters 0 word 99");
        Due.is("undo a change", x.undo(), 4);
        Due.is("undo a drop of the first", x.undo(), 3);
        Due.same("all as it was", Due.stateOf(x), three);
        x.undo();
        x.undo();
        Due.is("undo the first", x.undo(), 0);
        Due.is("no entries", x.count(1), 0);
        Due.is("undo of nothing", x.undo(), Due.STATE);
    }

    private static void undoTakesMeasuresBack() {
        for (String measure : new String[] {"count", "sum", "most", "least", "kinds"}) {
            CrossTable x = Due.planned("ab" + measure + ".01");
            Due.fill(x, 0, 0, 5, 0, 0, 5, 0, 1, 90, 0, 1, 2, 1, 0, 100);
            int[] were = {x.total(), x.along(0, 0), x.along(1, 1), x.cell(0, 0)};
            x.drop(2);
            x.drop(2);
            x.drop(0);
            x.change(0, 100);
            for (int i = 0; i < 4; i++) {
                x.undo();
            }
            Due.is(measure + " total", x.total(), were[0]);
            Due.is(measure + " row", x.along(0, 0), were[1]);
            Due.is(measure + " column", x.along(1, 1), were[2]);
            Due.is(measure + " cell", x.cell(0, 0), were[3]);
        }
    }

    private static void firstActIsForgotten() {
        CrossTable x = new CrossTable();
        x.add(0, 0, 0);
        for (int i = 1; i <= 20; i++) {
            x.change(0, i);
            Due.is("acts", x.count(6), Math.min(14, i + 1));
        }
        for (int left = 13; left >= 0; left--) {
            Due.is("undo", x.undo(), left);
        }
        Due.is("undo of what is forgotten", x.undo(), Due.STATE);
        Due.is("amount before the last 14", x.entry(0, 2), 6);
        Due.is("acts go on", x.drop(0), 6);
        Due.is("undo it", x.undo(), 0);
        Due.is("the entry is back", x.entry(0, 2), 6);
    }
}
