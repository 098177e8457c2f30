/** What the tests share: it counts the answers that are not as due, and ends a test. */
final class Due {
    static final int UNKNOWN = -1, OUTSIDE = -2, STATE = -3, FULL = -4, NONE = -9;

    private static int asked = 0;
    private static int wrong = 0;

    private Due() {
    }

    static void is(String call, long got, long want) {
        asked++;
        if (got != want) {
            wrong++;
            System.out.println(call + " answered " + got + ", due is " + want);
        }
    }

    /** A new table whose plan is told by a text. */
    static CrossTable planned(String text) {
        CrossTable x = new CrossTable();
        retell(x, text);
        is("plan of " + text, x.plan(), 0);
        return x;
    }

    /** Wipes the text and writes another. */
    static void retell(CrossTable x, String text) {
        x.wipe();
        for (int i = 0; i < text.length(); i++) {
            x.write(text.charAt(i));
        }
    }

    /** Adds entries, of three numbers each. */
    static void fill(CrossTable x, int... numbers) {
        for (int i = 0; i + 2 < numbers.length; i += 3) {
            x.add(numbers[i], numbers[i + 1], numbers[i + 2]);
        }
    }

    /** Town, ware and amount of all entries, and how many acts there are: what a call that changes nothing leaves. */
    static String stateOf(CrossTable x) {
        StringBuilder state = new StringBuilder();
        for (int i = 0; i < x.count(1); i++) {
            state.append(x.entry(i, 0)).append(',').append(x.entry(i, 1)).append(',').append(x.entry(i, 2)).append(' ');
        }
        return state.append("acts ").append(x.count(6)).append(" seen ").append(x.count(7))
                .append(" letters ").append(x.count(0)).append(" word ").append(x.word(0)).toString();
    }

    static void same(String call, String got, String want) {
        asked++;
        if (!got.equals(want)) {
            wrong++;
            System.out.println(call + " left " + got + ", due is " + want);
        }
    }

    static void holds(String what, boolean so) {
        is(what, so ? 1 : 0, 1);
    }

    static void end(String test) {
        System.out.println(test + ": " + asked + " answers, " + wrong + " not as due");
        if (wrong != 0 || asked == 0) {
            System.exit(1);
        }
    }
}
