/** The edges of THE TEXT, PLAN and FAULT, and of promises 1 to 6. */
public final class PlanEdgesTest {
    private static final String[] WORDS = {"count", "sum", "most", "least", "kinds"};

    public static void main(String[] args) {
        newObject();
        firstPlan();
        textIsFull();
        letters();
        wipe();
        eachLetterOfAPlan();
        faultWhateverComesBehind();
        onlyNotAtItsEnd();
        faultTold();
        planOfAFault();
        planLeavesAllElse();
        planTellsRows();
        word();
        Due.end("PlanEdgesTest");
    }

    private static void newObject() {
        Due.sentence(1, "No entries.");
        CrossTable x = new CrossTable();
        Due.is("entries", x.count(1), 0);
        Due.is("entry(0, 0)", x.entry(0, 0), Due.UNKNOWN);
        Due.is("total", x.total(), Due.NONE);
        Due.is("acts", x.count(6), 0);
        Due.is("again(0)", x.again(0), Due.STATE);
    }

    private static void firstPlan() {
        Due.sentence(0, "At first THE PLAN is that of abcount.01.");
        CrossTable x = new CrossTable();
        CrossTable y = Due.planned("abcount.01");
        y.wipe();
        for (CrossTable table : new CrossTable[] {x, y}) {
            Due.fill(table, 3, 4, 7, 3, 1, 8, 0, 1, 100, 1, 0, 7, 2, 2, 2);
        }
        Due.is("the text is not that", x.count(0), 0);
        Due.keysAre("towns, all of them", x, 0, 0, 1, 2, 3);
        Due.keysAre("wares", x, 1, 0, 1, 2, 4);
        Due.is("counts", x.along(0, 3), 2);
        Due.alike("the first plan", x, y);
    }

    private static void textIsFull() {
        Due.sentence(0, "THE TEXT is letters (32 at most).");
        CrossTable x = new CrossTable();
        for (int i = 1; i <= 32; i++) {
            Due.is("write " + i, x.write('a'), i);
        }
        Due.sentence(2, "OUTSIDE; FULL: there are 32.");
        Due.is("write 33", x.write('a'), Due.FULL);
        Due.is("write 34", x.write(0), Due.FULL);
        Due.is("letters", x.count(0), 32);
        Due.is("wipe", x.wipe(), 32);
        Due.is("write with room again", x.write('a'), 1);
        Due.is("write(-1)", x.write(-1), Due.OUTSIDE);
        Due.is("write(256)", x.write(256), Due.OUTSIDE);
        Due.is("write(97 + 256)", x.write(97 + 256), Due.OUTSIDE);
        Due.is("write(min)", x.write(Integer.MIN_VALUE), Due.OUTSIDE);
        Due.is("write(max)", x.write(Integer.MAX_VALUE), Due.OUTSIDE);
        Due.is("letters", x.count(0), 1);
    }

    private static void letters() {
        Due.sentence(2, "A letter (0 to 255) comes behind THE TEXT: how long it is.");
        CrossTable x = new CrossTable();
        Due.is("write(0)", x.write(0), 1);
        Due.is("write(255)", x.write(255), 2);
        x.wipe();
        Due.retell(x, "abmost.3");
        Due.is("behind the others", x.write('4'), 9);
        Due.is("in its place", x.fault(), Due.NONE);
    }

    private static void wipe() {
        Due.sentence(3, "THE TEXT is empty: how long it was.");
        CrossTable x = new CrossTable();
        Due.is("wipe of nothing", x.wipe(), 0);
        Due.retell(x, "absum.01");
        Due.is("wipe", x.wipe(), 8);
        Due.is("wipe again", x.wipe(), 0);
        Due.is("letters", x.count(0), 0);
        Due.is("fault", x.fault(), 0);
        Due.retell(x, "b");
        Due.is("nothing of it is left", x.fault(), 1);
    }

    private static int faultOf(String text) {
        CrossTable x = new CrossTable();
        Due.retell(x, text);
        return x.fault();
    }

    /** Behind a good beginning just these letters, of all 256, are no fault. */
    private static void onlyThese(String beginning, String these) {
        int place = beginning.length();
        for (char letter = 0; letter <= 255; letter++) {
            boolean good = these.indexOf(letter) >= 0;
            boolean whole = good && place > 2 && beginning.charAt(place - 2) == '.';
            int want = whole ? Due.NONE : good ? place + 1 : place;
            Due.is("fault of " + beginning + " and letter " + (int) letter, faultOf(beginning + letter), want);
        }
    }

    private static void eachLetterOfAPlan() {
        Due.sentence(0, "A PLAN is a TEXT: two FIELDS, of rows and of columns, unlike ones: a (TOWN), b (WARE), v (AMOUNT), "
                + "or, for columns alone, - (one column for all, KEY 0); then a MEASURE, spelt: count, sum, most, least, kinds; "
                + "a full stop; two figures, n (0 to 4) and w (1 to 9).");
        onlyThese("", "abv");
        onlyThese("a", "bv-");
        onlyThese("b", "av-");
        onlyThese("v", "ab-");
        onlyThese("ab", "csmlk");
        onlyThese("v-", "csmlk");
        for (String word : WORDS) {
            for (int i = 1; i < word.length(); i++) {
                onlyThese("ba" + word.substring(0, i), word.substring(i, i + 1));
            }
            onlyThese("a-" + word, ".");
            onlyThese("vb" + word + ".", "01234");
            onlyThese("av" + word + ".0", "123456789");
            onlyThese("va" + word + ".4", "123456789");
        }
    }

    private static void faultWhateverComesBehind() {
        Due.sentence(0, "FAULT: the place of the first letter by which THE TEXT can be no PLAN, whatever came behind it "
                + "(its length set aside);");
        String plan = "vakinds.27";
        for (int place = 0; place < plan.length(); place++) {
            String spoilt = plan.substring(0, place) + "!";
            Due.is("fault at the end, " + spoilt, faultOf(spoilt), place);
            Due.is("the rest is good", faultOf(spoilt + plan.substring(place + 1)), place);
            Due.is("the rest is worse", faultOf(spoilt + "!!"), place);
            Due.is("a plan comes behind", faultOf(spoilt + plan), place);
            Due.is("32 letters", faultOf(spoilt + "a".repeat(31 - place)), place);
        }
        Due.is("a letter more than a plan", faultOf(plan + "7"), plan.length());
        Due.is("32 letters, of which the first are a plan", faultOf(plan + "7".repeat(22)), plan.length());
        Due.is("two of the same field, all else good", faultOf("bbsum.01"), 1);
        Due.is("no column field for rows", faultOf("-asum.01"), 0);
    }

    private static void onlyNotAtItsEnd() {
        Due.sentence(0, "its length, if it is only not at its end; NONE: none.");
        for (String word : WORDS) {
            String plan = "b-" + word + ".49";
            for (int length = 0; length < plan.length(); length++) {
                Due.is("fault of " + plan.substring(0, length), faultOf(plan.substring(0, length)), length);
            }
            Due.is("fault of " + plan, faultOf(plan), Due.NONE);
        }
    }

    private static void faultTold() {
        Due.sentence(4, "FAULT; NONE.");
        Due.is("fault of no text", new CrossTable().fault(), 0);
        Due.is("fault", faultOf("aa"), 1);
        Due.is("none", faultOf("avcount.09"), Due.NONE);
        CrossTable x = Due.planned("abmost.11");
        Due.fill(x, 0, 0, 5, 1, 0, 7);
        Due.retell(x, "basum.01");
        Due.is("none", x.fault(), Due.NONE);
        Due.is("it is only told: the measure stays", x.word(0), 'm');
        Due.keysAre("it is only told: the rows stay", x, 0, 1, 99);
    }

    private static void planOfAFault() {
        Due.sentence(5, "STATE: a FAULT.");
        CrossTable x = Due.planned("vasum.12");
        Due.fill(x, 0, 0, 5, 0, 0, 15);
        for (String text : new String[] {"", "a", "abcount.0", "abcount.00", "abcount.50", "abcount.011", "aacount.01", "-acount.01"}) {
            Due.retell(x, text);
            Due.is("plan of " + text, x.plan(), Due.STATE);
            Due.is("the measure stays", x.word(0), 's');
            Due.keysAre("the rows stay", x, 0, 1, 99);
            Due.is("the text stays", x.count(0), text.length());
        }
    }

    private static void planLeavesAllElse() {
        Due.sentence(5, "THE TEXT is THE PLAN (all else stays): how many ROWS there are.");
        CrossTable x = new CrossTable();
        CrossTable y = new CrossTable();
        for (CrossTable table : new CrossTable[] {x, y}) {
            Due.fill(table, 1, 2, 3, 2, 1, 100);
            table.keep(1);
            table.change(0, 88);
            table.see(1, 1, 0);
            table.seed(4);
            Due.retell(table, "vamost.11");
        }
        Due.is("plan", x.plan(), 2);
        Due.is("another measure", x.word(0), 'm');
        Due.is("the text stays", x.count(0), 9);
        Due.is("it has no fault still", x.fault(), Due.NONE);
        Due.is("acts stay", x.count(6), 3);
        Due.is("seen stays", x.count(7), 1);
        y.plan();
        y.plan();
        Due.alike("plan once, plan twice", x, y);
    }

    private static void planTellsRows() {
        CrossTable x = new CrossTable();
        Due.retell(x, "vasum.01");
        Due.is("rows of nothing", x.plan(), 0);
        Due.fill(x, 0, 0, 0, 0, 0, 5, 0, 0, 100);
        Due.is("all groups", x.plan(), 3);
        Due.retell(x, "vasum.11");
        Due.is("one and the rest", x.plan(), 2);
        Due.retell(x, "vasum.31");
        Due.is("three, no rest", x.plan(), 3);
        Due.retell(x, "absum.31");
        Due.is("one town", x.plan(), 1);
    }

    private static void word() {
        Due.sentence(6, "Letter i (from 0) of the word of THE MEASURE, as a letter; NONE: there is none such.");
        for (String word : WORDS) {
            CrossTable x = Due.planned("ab" + word + ".01");
            Due.retell(x, "abmost.01");
            Due.is("the first letter", x.word(0), word.charAt(0));
            Due.is("the last letter", x.word(word.length() - 1), word.charAt(word.length() - 1));
            Due.is("behind it", x.word(word.length()), Due.NONE);
            Due.is("before it", x.word(-1), Due.NONE);
            Due.is("far behind it", x.word(Integer.MAX_VALUE), Due.NONE);
            Due.is("far before it", x.word(Integer.MIN_VALUE), Due.NONE);
        }
    }
}
