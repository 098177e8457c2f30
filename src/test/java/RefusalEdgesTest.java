import java.util.function.ToLongFunction;

/** Terms, before part 1: which refusal comes first, that it changes nothing, and how fractions are told. */
public final class RefusalEdgesTest {
    public static void main(String[] args) {
        unknownComesFirst();
        outsideComesBeforeFull();
        outsideComesBeforeNone();
        stateAsTold();
        refusedByAFullTableChangesNothing();
        refusedByABareTableChangesNothing();
        noneIsMinusNine();
        fractions();
        fractionsRefused();
        askingChangesNothing();
        Due.end("RefusalEdgesTest");
    }

    /** All rows are full: 16 entries, 14 acts, 6 seen, 32 letters, more than 6 rows; slot 0 is kept, slot 1 is not. */
    private static CrossTable full() {
        CrossTable x = Due.planned("vbsum.01");
        for (int i = 0; i < 15; i++) {
            x.add(i % 4, i % 5, 6 * i);
        }
        x.keep(0);
        x.change(3, 100);
        x.drop(1);
        x.add(1, 1, 50);
        x.add(3, 4, 99);
        for (int i = 0; i < 5; i++) {
            x.see(i, 9999, 0);
        }
        x.see(19, -9, 0);
        Due.retell(x, "absum.01" + "x".repeat(24));
        x.seed(355);
        return x;
    }

    /** No acts; the text has no fault, and is not the plan. */
    private static CrossTable bare() {
        CrossTable x = Due.planned("abmost.12");
        Due.retell(x, "bvsum.34");
        Due.fill(x, 0, 0, 5, 1, 1, 100, 3, 2, 9);
        x.keep(1);
        x.again(1);
        x.see(0, 9, 0);
        x.seed(-7);
        return x;
    }

    private static void unknownComesFirst() {
        Due.sentence(0, "REFUSALS, of several the first that a call names: UNKNOWN (there is no such ENTRY, SLOT), "
                + "OUTSIDE (another number is not as told), STATE (as told), FULL.");
        CrossTable x = full();
        Due.is("change(16, 101)", x.change(16, 101), Due.UNKNOWN);
        Due.is("change(-1, -1)", x.change(-1, -1), Due.UNKNOWN);
        Due.is("entry(16, 5)", x.entry(16, 5), Due.UNKNOWN);
        Due.is("entry(-1, -1)", x.entry(-1, -1), Due.UNKNOWN);
        Due.is("share(99, true), more than 6 rows", x.share(99, true), Due.UNKNOWN);
        Due.is("share(-1, false), more than 6 rows", x.share(-1, false), Due.UNKNOWN);
        Due.is("again(2), none kept", x.again(2), Due.UNKNOWN);
        Due.is("again(-1), none kept", x.again(-1), Due.UNKNOWN);
    }

    private static void outsideComesBeforeFull() {
        CrossTable x = full();
        Due.is("write(256)", x.write(256), Due.OUTSIDE);
        Due.is("add(4, 0, 0)", x.add(4, 0, 0), Due.OUTSIDE);
        Due.is("add(0, 5, 0)", x.add(0, 5, 0), Due.OUTSIDE);
        Due.is("add(0, 0, 101)", x.add(0, 0, 101), Due.OUTSIDE);
        Due.is("would(4, 0, 0, 0)", x.would(4, 0, 0, 0), Due.OUTSIDE);
        Due.is("would(0, 5, 0, 0)", x.would(0, 5, 0, 0), Due.OUTSIDE);
        Due.is("would(0, 0, 101, 0)", x.would(0, 0, 101, 0), Due.OUTSIDE);
        Due.is("would(0, 0, 0, 2)", x.would(0, 0, 0, 2), Due.OUTSIDE);
        Due.is("see(21, 0, 0)", x.see(21, 0, 0), Due.OUTSIDE);
        Due.is("see(0, -1, 0)", x.see(0, -1, 0), Due.OUTSIDE);
        Due.is("see(0, 0, 2)", x.see(0, 0, 2), Due.OUTSIDE);
        Due.is("hidden(2)", x.hidden(2), Due.OUTSIDE);
        Due.is("lost(1000, 0, true)", x.lost(1000, 0, true), Due.OUTSIDE);
        Due.is("lost(0, 11, false)", x.lost(0, 11, false), Due.OUTSIDE);
    }

    /** NONE is an answer, no refusal: a call that is refused has none. */
    private static void outsideComesBeforeNone() {
        CrossTable x = new CrossTable();
        Due.is("key(2, 0)", x.key(2, 0), Due.OUTSIDE);
        Due.is("along(2, 0)", x.along(2, 0), Due.OUTSIDE);
        Due.is("best(2)", x.best(2), Due.OUTSIDE);
        x.see(0, 0, 0);
        x.see(0, 0, 1);
        Due.is("hidden(1)", x.hidden(1), Due.NONE);
        Due.is("hidden(2)", x.hidden(2), Due.OUTSIDE);
    }

    private static void stateAsTold() {
        CrossTable x = new CrossTable();
        Due.is("plan, a fault", x.plan(), Due.STATE);
        Due.is("undo, no act", x.undo(), Due.STATE);
        Due.is("again(0), none kept", x.again(0), Due.STATE);
        Due.is("again(1), none kept", x.again(1), Due.STATE);
    }

    private static void refused(String call, ToLongFunction<CrossTable> of, boolean byFull, int want) {
        CrossTable x = byFull ? full() : bare();
        CrossTable y = byFull ? full() : bare();
        Due.is(call, of.applyAsLong(x), want);
        Due.alike(call, x, y);
    }

    private static void refusedByAFullTableChangesNothing() {
        Due.sentence(0, "What is refused changes nothing.");
        refused("write(97)", x -> x.write(97), true, Due.FULL);
        refused("write(-1)", x -> x.write(-1), true, Due.OUTSIDE);
        refused("plan()", x -> x.plan(), true, Due.STATE);
        refused("add(0, 0, 0)", x -> x.add(0, 0, 0), true, Due.FULL);
        refused("drop(16)", x -> x.drop(16), true, Due.UNKNOWN);
        refused("change(16, 0)", x -> x.change(16, 0), true, Due.UNKNOWN);
        refused("change(0, 101)", x -> x.change(0, 101), true, Due.OUTSIDE);
        refused("would(0, 0, 0, 0)", x -> x.would(0, 0, 0, 0), true, Due.FULL);
        refused("see(0, 0, 0)", x -> x.see(0, 0, 0), true, Due.FULL);
        refused("see(21, 0, 0)", x -> x.see(21, 0, 0), true, Due.OUTSIDE);
        refused("hidden(0)", x -> x.hidden(0), true, Due.FULL);
        refused("share(0, true)", x -> x.share(0, true), true, Due.FULL);
        refused("lost(0, 0, true)", x -> x.lost(0, 0, true), true, Due.FULL);
        refused("again(1)", x -> x.again(1), true, Due.STATE);
    }

    private static void refusedByABareTableChangesNothing() {
        refused("write(256)", x -> x.write(256), false, Due.OUTSIDE);
        refused("add(-1, 0, 0)", x -> x.add(-1, 0, 0), false, Due.OUTSIDE);
        refused("add(0, -1, 0)", x -> x.add(0, -1, 0), false, Due.OUTSIDE);
        refused("add(0, 0, -1)", x -> x.add(0, 0, -1), false, Due.OUTSIDE);
        refused("drop(-1)", x -> x.drop(-1), false, Due.UNKNOWN);
        refused("change(3, 1)", x -> x.change(3, 1), false, Due.UNKNOWN);
        refused("change(2, -1)", x -> x.change(2, -1), false, Due.OUTSIDE);
        refused("undo()", x -> x.undo(), false, Due.STATE);
        refused("entry(3, 0)", x -> x.entry(3, 0), false, Due.UNKNOWN);
        refused("entry(0, 5)", x -> x.entry(0, 5), false, Due.OUTSIDE);
        refused("key(2, 0)", x -> x.key(2, 0), false, Due.OUTSIDE);
        refused("along(-1, 0)", x -> x.along(-1, 0), false, Due.OUTSIDE);
        refused("would(0, 0, 101, 0)", x -> x.would(0, 0, 101, 0), false, Due.OUTSIDE);
        refused("best(2)", x -> x.best(2), false, Due.OUTSIDE);
        refused("judge(0, 1000)", x -> x.judge(0, 1000L), false, Due.OUTSIDE);
        refused("judge(1, 10000)", x -> x.judge(1, 10000L), false, Due.OUTSIDE);
        refused("see(0, 0, 2)", x -> x.see(0, 0, 2), false, Due.OUTSIDE);
        refused("hidden(-1)", x -> x.hidden(-1), false, Due.OUTSIDE);
        refused("share(2, true)", x -> x.share(2, true), false, Due.UNKNOWN);
        refused("lost(0, 11, true)", x -> x.lost(0, 11, true), false, Due.OUTSIDE);
        refused("drawn(0)", x -> x.drawn(0), false, Due.OUTSIDE);
        refused("drawn(21)", x -> x.drawn(21), false, Due.OUTSIDE);
        refused("keep(2)", x -> x.keep(2), false, Due.UNKNOWN);
        refused("keep(-1)", x -> x.keep(-1), false, Due.UNKNOWN);
        refused("again(2)", x -> x.again(2), false, Due.UNKNOWN);
        refused("again(0)", x -> x.again(0), false, Due.STATE);
        refused("count(8)", x -> x.count(8), false, Due.OUTSIDE);
    }

    private static void noneIsMinusNine() {
        Due.sentence(0, "NONE is -9.");
        Due.is("NONE", CrossTable.NONE, -9);
        Due.is("total of nothing", new CrossTable().total(), -9);
    }

    private static void fractions() {
        Due.sentence(0, "FRACTIONS are told above (upper = true; below 0, if they are), below (1 and more), in least terms; "
                + "refusals of them are told likewise.");
        CrossTable x = Due.planned("ableast.01");
        Due.fill(x, 0, 0, 1, 1, 0, 99);
        // row 0: 1, or 1 - 99; row 1: 99, or 0
        Due.is("below 0: above", x.share(0, true), -97);
        Due.is("below 0: below", x.share(0, false), 2);
        Due.is("above 0: above", x.share(1, true), 99);
        Due.is("above 0: below", x.share(1, false), 2);
        x.change(0, 9);
        // row 0: 9, or 9 - 99: -81 in two orders
        Due.is("above", x.share(0, true), -81);
        x.change(0, 33);
        x.add(2, 0, 99);
        // row 0: 33 twice in six orders, else 33 - 99
        Due.is("in least terms, above", x.share(0, true), -33);
        Due.is("in least terms, below", x.share(0, false), 1);
        Due.is("nothing: above", x.lost(100, 5, true), 0);
        Due.is("nothing: below", x.lost(100, 5, false), 1);
        Due.is("all: above", x.lost(0, 0, true), 1);
        Due.is("all: below", x.lost(0, 0, false), 1);
        Due.is("in least terms, above", x.lost(0, 5, true), 7);
        Due.is("in least terms, below", x.lost(0, 5, false), 8);
    }

    private static void fractionsRefused() {
        CrossTable x = full();
        for (boolean upper : new boolean[] {true, false}) {
            Due.is("share, unknown", x.share(-1, upper), Due.UNKNOWN);
            Due.is("share, full", x.share(0, upper), Due.FULL);
            Due.is("lost, v", x.lost(-1, 0, upper), Due.OUTSIDE);
            Due.is("lost, x", x.lost(0, -1, upper), Due.OUTSIDE);
            Due.is("lost, full", x.lost(0, 0, upper), Due.FULL);
        }
    }

    private static void asks(String call, ToLongFunction<CrossTable> of) {
        CrossTable x = bare();
        CrossTable y = bare();
        x.change(0, 6);
        y.change(0, 6);
        of.applyAsLong(x);
        Due.alike(call, x, y);
    }

    private static void askingChangesNothing() {
        Due.sentence(0, "In what follows nothing is changed.");
        asks("total()", x -> x.total());
        asks("would(3, 4, 99, 0)", x -> x.would(3, 4, 99, 0));
        asks("would(2, 4, 100, 1)", x -> x.would(2, 4, 100, 1));
        asks("best(0)", x -> x.best(0));
        asks("best(1)", x -> x.best(1));
        asks("judge(4, 1119200039004000)", x -> x.judge(4, 1119200039004000L));
        asks("judge(2, 20009999)", x -> x.judge(2, 20009999L));
        asks("hidden(0)", x -> x.hidden(0));
        asks("share(0, true)", x -> x.share(0, true));
        asks("lost(3, 4, false)", x -> x.lost(3, 4, false));
        asks("fault()", x -> x.fault());
        asks("word(0)", x -> x.word(0));
        asks("entry(0, 3)", x -> x.entry(0, 3));
        asks("key(0, 0)", x -> x.key(0, 0));
        asks("cell(99, 1)", x -> x.cell(99, 1));
        asks("drill(99, 1)", x -> x.drill(99, 1));
        asks("along(0, 99)", x -> x.along(0, 99));
        asks("count(4)", x -> x.count(4));
    }
}
