/** What the tests share: it counts the answers that are not as due, and ends a test. */
final class Due {
    static final int UNKNOWN = -1, OUTSIDE = -2, STATE = -3, FULL = -4, NONE = -9;

    private static int asked = 0;
    private static int wrong = 0;
    private static String sentence = "";
    private static int askedBefore = -1;

    private Due() {
    }

    /**
     * The document's words by which the next answers are due: of a promise by its number, of the Terms by 0.
     * SentencesTest looks at them: they must stand in the document, and no sentence of it may be without them.
     */
    static void sentence(int promise, String words) {
        sentenceIsOver();
        askedBefore = asked;
        sentence = "[" + (promise == 0 ? "Terms" : "Promise " + promise) + ": " + words + "] ";
    }

    /** Words by which no answer was due would only look like a test. */
    private static void sentenceIsOver() {
        if (asked == askedBefore) {
            wrong++;
            System.out.println(sentence + "no answer is due by it");
        }
    }

    static void is(String call, long got, long want) {
        asked++;
        if (got != want) {
            wrong++;
            System.out.println(sentence + call + " answered " + got + ", due is " + want);
        }
    }

    /** A new table whose plan is told by a text. */
    static CrossTable planned(String text) {
        CrossTable x = new CrossTable();
        retell(x, text);
        is("plan of " + text, x.plan(), 0);
        return x;
    }

    /** Wipes the text and writes another. */
    static void retell(CrossTable x, String text) {
        x.wipe();
        for (int i = 0; i < text.length(); i++) {
            x.write(text.charAt(i));
        }
    }

    /** Adds entries, of three numbers each. */
    static void fill(CrossTable x, int... numbers) {
        for (int i = 0; i + 2 < numbers.length; i += 3) {
            x.add(numbers[i], numbers[i + 1], numbers[i + 2]);
        }
    }

    /** Town, ware and amount of all entries, and how many acts there are: what a call that changes nothing leaves. */
    static String stateOf(CrossTable x) {
        StringBuilder state = new StringBuilder();
        int entries = x.count(1);
        for (int i = 0; i < entries; i++) {
            state.append(x.entry(i, 0)).append(',').append(x.entry(i, 1)).append(',').append(x.entry(i, 2)).append(' ');
        }
        return state.append("acts ").append(x.count(6)).append(" seen ").append(x.count(7))
                .append(" letters ").append(x.count(0)).append(" word ").append(x.word(0)).toString();
    }

    static void same(String call, String got, String want) {
        asked++;
        if (!got.equals(want)) {
            wrong++;
            System.out.println(sentence + call + " left " + got + ", due is " + want);
        }
    }

    /** Town, ware and amount of all entries. */
    static void entriesAre(String after, CrossTable x, int... numbers) {
        is(after + ": entries", x.count(1), numbers.length / 3);
        for (int i = 0; i < numbers.length; i++) {
            is(after + ": entry(" + i / 3 + ", " + i % 3 + ")", x.entry(i / 3, i % 3), numbers[i]);
        }
    }

    /** The keys of all rows (axis 0) or columns (1), in their order. */
    static void keysAre(String of, CrossTable x, int axis, int... want) {
        is(of + ": how many", x.count(2 + axis), want.length);
        for (int i = 0; i < want.length; i++) {
            is(of + ": key(" + axis + ", " + i + ")", x.key(axis, i), want[i]);
        }
        is(of + ": key behind", x.key(axis, want.length), NONE);
    }

    /**
     * Two tables are alike in all that can be told of them: what is to be undone and what is kept too. Both are
     * spent by it, since that is told only by undoing and going on.
     */
    static void alike(String after, CrossTable x, CrossTable y) {
        is(after + ": word", x.word(0), y.word(0));
        for (int what = 0; what <= 7; what++) {
            is(after + ": count(" + what + ")", x.count(what), y.count(what));
        }
        is(after + ": fault", x.fault(), y.fault());
        is(after + ": hidden(0)", x.hidden(0), y.hidden(0));
        is(after + ": hidden(1)", x.hidden(1), y.hidden(1));
        is(after + ": seed", x.seed(0), y.seed(0));
        same(after, tableOf(x), tableOf(y));
        for (int left = x.count(6); left >= 0; left--) {
            is(after + ": undo", x.undo(), y.undo());
            is(after + ", undone: entries", x.count(1), y.count(1));
            is(after + ", undone: total", x.total(), y.total());
        }
        same(after + ", all undone", stateOf(x), stateOf(y));
        for (int slot = 0; slot <= 1; slot++) {
            is(after + ": again(" + slot + ")", x.again(slot), y.again(slot));
            same(after + ", again", stateOf(x), stateOf(y));
            is(after + ", again: hidden(0)", x.hidden(0), y.hidden(0));
            is(after + ", again: hidden(1)", x.hidden(1), y.hidden(1));
        }
        is(after + ": plan", x.plan(), y.plan());
        is(after + ": total", x.total(), y.total());
    }

    private static String tableOf(CrossTable x) {
        StringBuilder table = new StringBuilder(stateOf(x));
        int entries = x.count(1);
        for (int i = 0; i < entries; i++) {
            table.append(' ').append(x.entry(i, 3)).append(',').append(x.entry(i, 4));
        }
        return table.append(" total ").append(x.total()).toString();
    }

    static void holds(String what, boolean so) {
        is(what, so ? 1 : 0, 1);
    }

    static void end(String test) {
        sentenceIsOver();
        System.out.println(test + ": " + asked + " answers, " + wrong + " not as due");
        if (wrong != 0 || asked == 0) {
            System.exit(1);
        }
    }
}
