import java.util.Random;

/** Runs of calls by chance (by fixed seeds), each answered as the plain oracle answers it; nothing is thrown. */
public final class OracleTest {
    private static final int RUNS = 1000;
    /** As many as the document lets a table be used for. */
    private static final int MOST_CALLS = 512;
    /** What tellPlan makes at most: it wipes, writes 11 letters, asks for the fault and plans. */
    private static final int PLAN_CALLS = 14;
    private static final String[] WORDS = {"count", "sum", "most", "least", "kinds"};
    private static final int[] WILD = {Integer.MIN_VALUE, Integer.MAX_VALUE, -1, -9, -2, 100, 101, 255, 256, 32, 33, 64};

    private final Random chance;
    private final CrossTable x = new CrossTable();
    private final Oracle y = new Oracle();
    private final String run;
    private int calls = 0;

    private OracleTest(int seed) {
        chance = new Random(seed);
        run = "run " + seed + ": ";
    }

    public static void main(String[] args) {
        for (int seed = 0; seed < RUNS; seed++) {
            OracleTest test = new OracleTest(seed);
            test.toTheLastCall();
        }
        Due.end("OracleTest");
    }

    private void toTheLastCall() {
        tellPlan();
        while (calls <= MOST_CALLS - PLAN_CALLS) {
            call();
        }
        while (calls < MOST_CALLS) {
            askTable();
        }
    }

    /** A number from least to most, now and then a wild one. */
    private int some(int least, int most) {
        if (chance.nextInt(40) == 0) {
            return chance.nextBoolean() ? WILD[chance.nextInt(WILD.length)] : least - 1 + chance.nextInt(2) * (most - least + 2);
        }
        return least + chance.nextInt(most - least + 1);
    }

    /** Amounts of a few kinds are alike more often. */
    private int amount() {
        return chance.nextInt(3) == 0 ? 100 : chance.nextBoolean() ? some(0, 100) : chance.nextInt(4) * 10;
    }

    private int key() {
        return switch (chance.nextInt(4)) {
            case 0 -> 99;
            case 1 -> some(0, 20);
            default -> chance.nextInt(5);
        };
    }

    /** Each answer is that of one call. */
    private void is(String call, long got, long want) {
        calls++;
        Due.is(run + call, got, want);
    }

    private void tellPlan() {
        String text = "" + "abv".charAt(chance.nextInt(3)) + "abv-".charAt(chance.nextInt(4))
                + WORDS[chance.nextInt(5)] + "." + chance.nextInt(5) + (1 + chance.nextInt(9));
        if (chance.nextInt(4) == 0) {
            int place = chance.nextInt(text.length());
            text = text.substring(0, place) + (char) (32 + chance.nextInt(96)) + text.substring(place + chance.nextInt(2));
        }
        if (chance.nextInt(6) == 0) {
            text = text.substring(0, chance.nextInt(text.length() + 1));
        }
        is("wipe", x.wipe(), y.wipe());
        for (char letter : text.toCharArray()) {
            is("write", x.write(letter), y.write(letter));
        }
        is("fault of " + text, x.fault(), y.fault());
        is("plan of " + text, x.plan(), y.plan());
    }

    private void call() {
        switch (chance.nextInt(10)) {
            case 0, 1, 2, 3 -> act();
            case 4, 5, 6 -> askTable();
            case 7 -> askWould();
            case 8 -> askChances();
            default -> callOther();
        }
    }

    private void act() {
        int a = some(0, 3);
        int b = some(0, 4);
        int v = amount();
        int e = some(0, 15);
        switch (chance.nextInt(6)) {
            case 0, 1, 2 -> is("add(" + a + ", " + b + ", " + v + ")", x.add(a, b, v), y.add(a, b, v));
            case 3 -> is("drop(" + e + ")", x.drop(e), y.drop(e));
            case 4 -> is("change(" + e + ", " + v + ")", x.change(e, v), y.change(e, v));
            default -> is("undo", x.undo(), y.undo());
        }
    }

    private void askTable() {
        int e = some(0, 15);
        int what = some(0, 7);
        int axis = some(0, 1);
        int row = key();
        int column = key();
        switch (chance.nextInt(7)) {
            case 0 -> is("entry(" + e + ", " + what + ")", x.entry(e, what), y.entry(e, what));
            case 1 -> is("key(" + axis + ", " + e + ")", x.key(axis, e), y.key(axis, e));
            case 2 -> is("cell(" + row + ", " + column + ")", x.cell(row, column), y.cell(row, column));
            case 3 -> is("drill(" + row + ", " + column + ")", x.drill(row, column), y.drill(row, column));
            case 4 -> is("along(" + axis + ", " + row + ")", x.along(axis, row), y.along(axis, row));
            case 5 -> is("count(" + what + ")", x.count(what), y.count(what));
            default -> is("total", x.total(), y.total());
        }
    }

    private void askWould() {
        int what = some(0, 1);
        switch (chance.nextInt(3)) {
            case 0 -> {
                int a = some(0, 3);
                int b = some(0, 4);
                int v = amount();
                is("would(" + a + ", " + b + ", " + v + ", " + what + ")", x.would(a, b, v, what), y.would(a, b, v, what));
            }
            case 1 -> is("best(" + what + ")", x.best(what), y.best(what));
            default -> {
                int n = some(1, 4);
                long row = doings(n);
                is("judge(" + n + ", " + row + ")", x.judge(n, row), y.judge(n, row));
            }
        }
    }

    /** Mostly doings that can be; some have a figure that can not. */
    private long doings(int n) {
        if (chance.nextInt(20) == 0) {
            return chance.nextLong();
        }
        long row = 0;
        for (int i = 0; i < n && i < 5; i++) {
            int doing = switch (chance.nextInt(6)) {
                case 0 -> 1000 + 100 * chance.nextInt(4) + 10 * chance.nextInt(5) + chance.nextInt(10);
                case 1 -> 2000 + chance.nextInt(10);
                case 2 -> 3000 + 100 * chance.nextInt(10) + chance.nextInt(10);
                case 3 -> 4000 + chance.nextInt(4);
                case 4 -> 5000 + 100 * chance.nextInt(5) + 10 * chance.nextInt(5) + chance.nextInt(4);
                default -> 6000 + chance.nextInt(50);
            };
            row = 10000 * row + (chance.nextInt(15) == 0 ? chance.nextInt(10000) : doing);
        }
        return row;
    }

    private void askChances() {
        int i = some(0, 5);
        int v = chance.nextBoolean() ? some(0, 12) : some(0, 999);
        int tenths = some(0, 10);
        int m = some(1, 20);
        boolean upper = chance.nextBoolean();
        switch (chance.nextInt(8)) {
            case 0, 1 -> is("share(" + i + ", " + upper + ")", x.share(i, upper), y.share(i, upper));
            case 2, 3, 4 -> is("lost(" + v + ", " + tenths + ", " + upper + ")", x.lost(v, tenths, upper), y.lost(v, tenths, upper));
            case 5 -> {
                long seed = chance.nextLong();
                is("seed(" + seed + ")", x.seed(seed), y.seed(seed));
            }
            default -> is("drawn(" + m + ")", x.drawn(m), y.drawn(m));
        }
    }

    private void callOther() {
        int key = key();
        int v = chance.nextInt(4) == 0 ? -9 : chance.nextBoolean() ? some(0, 9999) : chance.nextInt(4) * chance.nextInt(30);
        int was = chance.nextInt(3) == 0 ? 1 : some(0, 1);
        int slot = some(0, 1);
        switch (chance.nextInt(18)) {
            case 0, 1, 2 -> is("see(" + key + ", " + v + ", " + was + ")", x.see(key, v, was), y.see(key, v, was));
            case 3 -> is("unsee", x.unsee(), y.unsee());
            case 4 -> is("hidden(" + was + ")", x.hidden(was), y.hidden(was));
            case 5, 6 -> is("keep(" + slot + ")", x.keep(slot), y.keep(slot));
            case 7 -> is("again(" + slot + ")", x.again(slot), y.again(slot));
            case 8 -> is("fault", x.fault(), y.fault());
            case 9 -> is("plan", x.plan(), y.plan());
            case 10 -> is("word(" + was + ")", x.word(was), y.word(was));
            case 11 -> is("write(" + v + ")", x.write(v), y.write(v));
            default -> tellPlan();
        }
    }
}
