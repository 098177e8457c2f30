/** Promises 1 to 6: a new object, write, wipe, fault, plan, word. */
public final class PlanTest {
    public static void main(String[] args) {
        newObject();
        write();
        wipe();
        faultOfEachLetter();
        faultOfWholePlans();
        plan();
        word();
        Due.end("PlanTest");
    }

    private static void newObject() {
        CrossTable x = new CrossTable();
        for (int what = 0; what <= 7; what++) {
            Due.is("new count(" + what + ")", x.count(what), 0);
        }
        Due.is("new total", x.total(), Due.NONE);
        Due.is("new seed", x.seed(0), 0);
        Due.is("new undo", x.undo(), Due.STATE);
        Due.is("new again(0)", x.again(0), Due.STATE);
        Due.is("new again(1)", x.again(1), Due.STATE);
        Due.is("new fault", x.fault(), 0);
        // the plan is that of abcount.01
        Due.fill(x, 3, 4, 7, 3, 1, 8, 0, 1, 100);
        Due.is("first plan's rows", x.count(2), 2);
        Due.is("first plan's row 1", x.key(0, 1), 3);
        Due.is("first plan's column 0", x.key(1, 0), 1);
        Due.is("first plan's column 1", x.key(1, 1), 4);
        Due.is("first plan's total", x.total(), 3);
    }

    private static void write() {
        CrossTable x = new CrossTable();
        Due.is("write(-1)", x.write(-1), Due.OUTSIDE);
        Due.is("write(256)", x.write(256), Due.OUTSIDE);
        Due.is("write(min)", x.write(Integer.MIN_VALUE), Due.OUTSIDE);
        Due.is("write(max)", x.write(Integer.MAX_VALUE), Due.OUTSIDE);
        Due.is("letters", x.count(0), 0);
        for (int i = 1; i <= 32; i++) {
            Due.is("write " + i, x.write(i % 2 == 0 ? 0 : 255), i);
        }
        Due.is("write 33", x.write('a'), Due.FULL);
        Due.is("write 33, outside", x.write(256), Due.OUTSIDE);
        Due.is("letters", x.count(0), 32);
    }

    private static void wipe() {
        CrossTable x = Due.planned("vbmost.32");
        Due.is("wipe", x.wipe(), 9);
        Due.is("wipe again", x.wipe(), 0);
        Due.is("letters", x.count(0), 0);
        Due.is("the plan stays", x.word(0), 'm');
        Due.is("fault of nothing", x.fault(), 0);
    }

    private static int faultOf(String text) {
        CrossTable x = new CrossTable();
        Due.retell(x, text);
        return x.fault();
    }

    private static void fault(String text, int want) {
        Due.is("fault of " + text, faultOf(text), want);
    }

    private static void faultOfEachLetter() {
        fault("-bsum.01", 0);
        fault("Absum.01", 0);
        fault("bb", 1);
        fault("vvsum.01", 1);
        fault("--sum.01", 0);
        fault("a", 1);
        fault("ab", 2);
        fault("abx", 2);
        fault("ab.01", 2);
        fault("abcout.01", 5);
        fault("abcount", 7);
        fault("abcounts.01", 7);
        fault("abmist.01", 3);
        fault("ableast.01", Due.NONE);
        fault("ableats.01", 5);
        fault("abkind.01", 6);
        fault("absum.", 6);
        fault("absum.51", 6);
        fault("absum.x1", 6);
        fault("absum./1", 6);
        fault("absum.4", 7);
        fault("absum.40", 7);
        fault("absum.4:", 7);
        fault("absum.4/", 7);
        fault("absum.49", Due.NONE);
        fault("absum.49 ", 8);
        fault("absum.499999999999999999999999999", 8);
        fault("xxxxxxxx", 0);
        // a fault comes before all that is behind it
        fault("aasux,59x", 1);
    }

    private static void faultOfWholePlans() {
        String[] measures = {"count", "sum", "most", "least", "kinds"};
        for (char row : "abv".toCharArray()) {
            for (char column : "abv-".toCharArray()) {
                for (String measure : measures) {
                    String text = "" + row + column + measure + ".37";
                    fault(text, row == column ? 1 : Due.NONE);
                    fault(text.substring(0, text.length() - 1), row == column ? 1 : text.length() - 1);
                }
            }
        }
        for (char n = '0'; n <= '9'; n++) {
            for (char w = '0'; w <= '9'; w++) {
                fault("abcount." + n + w, n > '4' ? 8 : w < '1' ? 9 : Due.NONE);
            }
        }
    }

    private static void plan() {
        CrossTable x = new CrossTable();
        Due.is("plan of nothing", x.plan(), Due.STATE);
        Due.fill(x, 0, 0, 9, 1, 0, 10, 2, 3, 11, 2, 4, 100);
        x.see(0, 1, 1);
        Due.retell(x, "absu");
        Due.is("plan too short", x.plan(), Due.STATE);
        Due.is("the plan stays", x.word(0), 'c');
        Due.retell(x, "absum.011");
        Due.is("plan too long", x.plan(), Due.STATE);
        Due.is("the plan stays", x.total(), 4);
        Due.retell(x, "absum.01");
        Due.is("plan by towns", x.plan(), 3);
        Due.is("total", x.total(), 30);
        Due.is("the text stays", x.count(0), 8);
        Due.is("entries stay", x.count(1), 4);
        Due.is("acts stay", x.count(6), 4);
        Due.is("seen stays", x.count(7), 1);
        Due.is("plan once more", x.plan(), 3);
        Due.retell(x, "v-kinds.02");
        Due.is("plan by bins", x.plan(), 3);
        Due.is("fault tells, it does not plan", faultThenWord(x), 'k');
        Due.retell(x, "vamost.12");
        Due.is("plan by bins, top 1", x.plan(), 2);
        Due.is("the plan is no act", x.undo(), 3);
        Due.is("it stays when one is undone", x.word(0), 'm');
    }

    private static int faultThenWord(CrossTable x) {
        Due.retell(x, "absum.01");
        Due.is("fault", x.fault(), Due.NONE);
        return x.word(0);
    }

    private static void word() {
        String[] measures = {"count", "sum", "most", "least", "kinds"};
        for (String measure : measures) {
            CrossTable x = Due.planned("ab" + measure + ".01");
            for (int i = 0; i < measure.length(); i++) {
                Due.is(measure + " word(" + i + ")", x.word(i), measure.charAt(i));
            }
            Due.is(measure + " word(-1)", x.word(-1), Due.NONE);
            Due.is(measure + " word behind", x.word(measure.length()), Due.NONE);
            Due.is(measure + " word(max)", x.word(Integer.MAX_VALUE), Due.NONE);
            Due.is(measure + " word(min)", x.word(Integer.MIN_VALUE), Due.NONE);
        }
        Due.is("first word", new CrossTable().word(4), 't');
    }
}
