/** The edges of ENTRIES and ACTS, and of promises 7 to 10. */
public final class ActEdgesTest {
    private static final int[] FAR = {Integer.MIN_VALUE, -100, -9, -2, -1, 17, 256, Integer.MAX_VALUE};

    public static void main(String[] args) {
        whatAnEntryHas();
        sixteenEntries();
        addRefuses();
        addedBehind();
        dropped();
        dropUnknown();
        changed();
        changeRefuses();
        fourteenActs();
        forgottenActsOfEachKind();
        undoneOneByOne();
        undoOfADropWhenFull();
        undoStopsAtNone();
        actsGoOnAfterUndo();
        planIsNoAct();
        Due.end("ActEdgesTest");
    }

    private static void whatAnEntryHas() {
        Due.sentence(0, "ENTRIES are in a row, 0, 1, .. (16 at most): each has a TOWN (0 to 3), a WARE (0 to 4), "
                + "an AMOUNT (0 to 99), or none (told as 100).");
        for (int town = 0; town <= 3; town++) {
            for (int ware = 0; ware <= 4; ware++) {
                CrossTable x = new CrossTable();
                Due.fill(x, town, ware, 0, town, ware, 99, town, ware, 100);
                Due.entriesAre("as added", x, town, ware, 0, town, ware, 99, town, ware, 100);
                Due.is("only 100 is none", x.count(5), 1);
            }
        }
    }

    private static CrossTable full() {
        CrossTable x = new CrossTable();
        for (int i = 0; i < 16; i++) {
            Due.is("add", x.add(i % 4, i % 5, i), i + 1);
        }
        return x;
    }

    private static void sixteenEntries() {
        Due.sentence(7, "ADDED: how many ENTRIES there are.");
        CrossTable x = full();
        Due.sentence(7, "OUTSIDE: town, ware, amount (0 to 100); FULL: there are 16.");
        Due.is("add 17", x.add(0, 0, 0), Due.FULL);
        Due.is("entries", x.count(1), 16);
        Due.is("entry(16, 0)", x.entry(16, 0), Due.UNKNOWN);
        x.drop(15);
        Due.is("room again", x.add(3, 3, 100), 16);
        Due.is("add 17", x.add(3, 3, 100), Due.FULL);
        x.undo();
        Due.is("room again by undo", x.add(2, 2, 2), 16);
    }

    private static void addRefuses() {
        CrossTable x = new CrossTable();
        Due.is("town 4", x.add(4, 0, 0), Due.OUTSIDE);
        Due.is("ware 5", x.add(0, 5, 0), Due.OUTSIDE);
        Due.is("amount 101", x.add(0, 0, 101), Due.OUTSIDE);
        for (int far : FAR) {
            Due.is("town " + far, x.add(far, 0, 0), Due.OUTSIDE);
            Due.is("ware " + far, x.add(0, far, 0), Due.OUTSIDE);
            if (far != 17) {
                Due.is("amount " + far, x.add(0, 0, far), Due.OUTSIDE);
            }
        }
        Due.is("entries", x.count(1), 0);
        Due.is("acts", x.count(6), 0);
        Due.is("the last of each", x.add(3, 4, 100), 1);
        Due.is("the first of each", x.add(0, 0, 0), 2);
    }

    private static void addedBehind() {
        Due.sentence(0, "ADDED: an ENTRY more, behind the others.");
        CrossTable x = new CrossTable();
        Due.fill(x, 3, 4, 99, 0, 0, 0);
        Due.entriesAre("two", x, 3, 4, 99, 0, 0, 0);
        x.drop(0);
        x.add(1, 1, 1);
        Due.entriesAre("behind what is left", x, 0, 0, 0, 1, 1, 1);
    }

    private static CrossTable four() {
        CrossTable x = new CrossTable();
        Due.fill(x, 0, 1, 2, 1, 2, 100, 2, 3, 4, 3, 4, 99);
        return x;
    }

    private static void dropped() {
        Due.sentence(0, "DROPPED: an ENTRY is gone, those behind it come up.");
        CrossTable first = four();
        Due.is("the first", first.drop(0), 2);
        Due.entriesAre("the first is gone", first, 1, 2, 100, 2, 3, 4, 3, 4, 99);
        CrossTable last = four();
        Due.is("the last", last.drop(3), 99);
        Due.entriesAre("the last is gone", last, 0, 1, 2, 1, 2, 100, 2, 3, 4);
        CrossTable amid = four();
        Due.sentence(8, "DROPPED: its AMOUNT (none: 100).");
        Due.is("one without an amount", amid.drop(1), 100);
        Due.entriesAre("it is gone", amid, 0, 1, 2, 2, 3, 4, 3, 4, 99);
        Due.is("the one that came up", amid.drop(1), 4);
        Due.is("the one that came up", amid.drop(1), 99);
        Due.is("the only one", amid.drop(0), 2);
        Due.is("entries", amid.count(1), 0);
        CrossTable full = full();
        Due.is("the first of sixteen", full.drop(0), 0);
        Due.is("the last has come up", full.entry(14, 2), 15);
        Due.is("behind it there is none", full.entry(15, 2), Due.UNKNOWN);
    }

    private static void dropUnknown() {
        Due.sentence(8, "UNKNOWN.");
        Due.is("drop of nothing", new CrossTable().drop(0), Due.UNKNOWN);
        CrossTable x = four();
        Due.is("drop(4)", x.drop(4), Due.UNKNOWN);
        for (int far : FAR) {
            Due.is("drop(" + far + ")", x.drop(far), Due.UNKNOWN);
        }
        Due.is("entries", x.count(1), 4);
        Due.is("acts", x.count(6), 4);
        Due.is("drop(16) of sixteen", full().drop(16), Due.UNKNOWN);
    }

    private static void changed() {
        Due.sentence(0, "CHANGED: an ENTRY has another AMOUNT (or none).");
        CrossTable x = four();
        x.change(0, 100);
        x.change(1, 7);
        x.change(3, 0);
        Due.entriesAre("towns and wares stay", x, 0, 1, 100, 1, 2, 7, 2, 3, 4, 3, 4, 0);
        Due.sentence(9, "CHANGED: its AMOUNT as it was (none: 100).");
        Due.is("from 0", x.change(3, 100), 0);
        Due.is("from none", x.change(3, 99), 100);
        Due.is("from 99", x.change(3, 5), 99);
        Due.is("the first", x.change(0, 0), 100);
        Due.is("acts", x.count(6), 11);
        Due.is("to the same", x.change(3, 5), 5);
        Due.is("which is an act too", x.count(6), 12);
        Due.is("to none", x.change(3, 100), 5);
        Due.is("to none once more", x.change(3, 100), 100);
        Due.is("to 0", x.change(3, 0), 100);
        x.undo();
        Due.is("0 is undone", x.entry(3, 2), 100);
        x.undo();
        Due.is("none is undone by none", x.entry(3, 2), 100);
        x.undo();
        Due.is("none is undone", x.entry(3, 2), 5);
    }

    private static void changeRefuses() {
        Due.sentence(9, "UNKNOWN; OUTSIDE: amount (0 to 100).");
        Due.is("change of nothing", new CrossTable().change(0, 0), Due.UNKNOWN);
        CrossTable x = four();
        Due.is("change(4, 0)", x.change(4, 0), Due.UNKNOWN);
        Due.is("amount 101", x.change(0, 101), Due.OUTSIDE);
        for (int far : FAR) {
            Due.is("change(" + far + ", 0)", x.change(far, 0), Due.UNKNOWN);
            if (far != 17) {
                Due.is("amount " + far, x.change(3, far), Due.OUTSIDE);
            }
        }
        Due.entriesAre("all stay", x, 0, 1, 2, 1, 2, 100, 2, 3, 4, 3, 4, 99);
        Due.is("acts", x.count(6), 4);
    }

    private static void fourteenActs() {
        Due.sentence(0, "ACTS (ADDED, DROPPED, CHANGED) are a row (14 at most; of more the first one is forgotten); "
                + "the last one can be undone.");
        for (int adds = 13; adds <= 16; adds++) {
            CrossTable x = new CrossTable();
            for (int i = 0; i < adds; i++) {
                x.add(0, 0, i);
                Due.is("acts", x.count(6), Math.min(i + 1, 14));
            }
            int acts = Math.min(adds, 14);
            for (int left = acts - 1; left >= 0; left--) {
                Due.is("undo of " + adds, x.undo(), left);
                Due.is("entries", x.count(1), adds - acts + left);
            }
            Due.is("undo of what is forgotten", x.undo(), Due.STATE);
            Due.is("entries stay", x.count(1), adds - acts);
        }
    }

    /** Three acts, one of each kind, are forgotten one by one by those behind them. */
    private static void forgottenActsOfEachKind() {
        for (int forgotten = 0; forgotten <= 3; forgotten++) {
            CrossTable x = new CrossTable();
            Due.fill(x, 1, 1, 1, 2, 2, 2);
            x.keep(0);
            x.again(0);
            x.add(3, 3, 3);
            x.drop(0);
            x.change(0, 20);
            for (int i = 0; i < 11 + forgotten; i++) {
                x.change(1, 50 + i);
            }
            for (int left = 13; left >= 0; left--) {
                Due.is("undo", x.undo(), left);
            }
            Due.is("no more", x.undo(), Due.STATE);
            switch (forgotten) {
                case 0 -> Due.entriesAre("none is forgotten", x, 1, 1, 1, 2, 2, 2);
                case 1 -> Due.entriesAre("the add is forgotten", x, 1, 1, 1, 2, 2, 2, 3, 3, 3);
                case 2 -> Due.entriesAre("the drop too", x, 2, 2, 2, 3, 3, 3);
                default -> Due.entriesAre("the change too", x, 2, 2, 20, 3, 3, 3);
            }
        }
    }

    private static void undoneOneByOne() {
        Due.sentence(10, "The last ACT is undone: how many are left.");
        CrossTable x = new CrossTable();
        x.add(0, 0, 0);
        for (int amount = 1; amount <= 40; amount++) {
            x.change(0, amount);
        }
        for (int left = 13; left >= 0; left--) {
            Due.is("undo", x.undo(), left);
            Due.is("acts", x.count(6), left);
            Due.is("the amount before it", x.entry(0, 2), 26 + left);
        }
        Due.is("undo of what is forgotten", x.undo(), Due.STATE);
        Due.is("the amount stays", x.entry(0, 2), 26);
    }

    private static void undoOfADropWhenFull() {
        for (int place = 0; place < 16; place++) {
            CrossTable x = full();
            x.drop(place);
            Due.is("undo", x.undo(), 13);
            for (int i = 0; i < 16; i++) {
                Due.is("town " + i, x.entry(i, 0), i % 4);
                Due.is("ware " + i, x.entry(i, 1), i % 5);
                Due.is("amount " + i, x.entry(i, 2), i);
            }
        }
    }

    private static void undoStopsAtNone() {
        Due.sentence(10, "STATE: there is none.");
        CrossTable x = new CrossTable();
        Due.is("undo of nothing", x.undo(), Due.STATE);
        x.add(0, 0, 0);
        Due.is("undo", x.undo(), 0);
        Due.is("undo of nothing", x.undo(), Due.STATE);
        Due.is("undo is no act", x.count(6), 0);
        x.add(9, 9, 9);
        Due.is("a refused call is no act", x.undo(), Due.STATE);
    }

    private static void actsGoOnAfterUndo() {
        CrossTable x = four();
        x.undo();
        x.undo();
        x.drop(0);
        Due.is("acts", x.count(6), 3);
        Due.is("undo the drop", x.undo(), 2);
        Due.entriesAre("as before it", x, 0, 1, 2, 1, 2, 100);
        Due.is("undo an add before it", x.undo(), 1);
        Due.entriesAre("one is left", x, 0, 1, 2);
    }

    private static void planIsNoAct() {
        Due.sentence(0, "(THE PLAN is no ACT; it stays.)");
        CrossTable x = four();
        Due.retell(x, "vbleast.39");
        x.plan();
        Due.is("acts", x.count(6), 4);
        Due.is("undo", x.undo(), 3);
        Due.is("an add is undone", x.count(1), 3);
        Due.is("the plan stays", x.word(0), 'l');
        for (int left = 2; left >= 0; left--) {
            Due.is("undo", x.undo(), left);
        }
        Due.is("the plan stays", x.word(0), 'l');
        Due.is("the text stays", x.count(0), 10);
    }
}
