import java.util.Arrays;

/**
 * A table that is kept across: entries grouped into rows and columns by a plan that a short text
 * tells, with measures, undoing, questions of what would be, shares and chances.
 *
 * <p>Sets of entries are held as bits (entry e is bit e), since there are 16 entries at most. Rows and
 * columns are gathered anew for each question, so that nothing has to be taken back when an entry goes.
 */
public final class CrossTable {
    public static final int UNKNOWN = -1, OUTSIDE = -2, STATE = -3, FULL = -4, NONE = -9;

    private static final int MOST_LETTERS = 32;
    private static final int GREATEST_LETTER = 255;
    private static final int MOST_ENTRIES = 16;
    private static final int MOST_ACTS = 14;
    private static final int MOST_SEEN = 6;
    private static final int MOST_SHARED_ROWS = 6;
    private static final int MOST_DOINGS = 4;
    private static final int MOST_DRAWS = 20;
    private static final int SLOTS = 2;

    private static final int TOWNS = 4;
    private static final int WARES = 5;
    private static final int MISSING = 100;
    private static final int MISSING_KEY = 20;
    private static final int REST_KEY = 99;
    private static final int GREATEST_TOP = 4;
    private static final int BIN_UNIT = 5;
    private static final int LONG_BITS = 64;

    private static final int GREATEST_SEEN = 9999;
    private static final int TOWN_UNIT = 10000;
    private static final int WARE_UNIT = 1000;
    private static final int GREATEST_LOST = 999;
    private static final int TENTHS = 10;
    private static final int DOING_AMOUNT = 11;

    private static final int ADDED = 0;
    private static final int DROPPED = 1;
    private static final int CHANGED = 2;

    private static final long DRAW_FACTOR = 6364136223846793005L;
    private static final long DRAW_MORE = 1442695040888963407L;
    private static final int DRAW_SHIFT = 33;

    /** How many orders there are of 0 to 6 rows. */
    private static final int[] ORDERS = {1, 1, 2, 6, 24, 120, 720};

    /** What comes before 0 to 4 doings of four figures each. */
    private static final long[] DOING_UNITS = {1L, 10000L, 100000000L, 1000000000000L, 10000000000000000L};

    private final PlanText text;
    private Plan plan;
    /** Takes what a text says before it is known whether the text has a fault. */
    private Plan draft;
    private final Entries entries;
    /** A copy of the entries on which is tried what would be. */
    private final Entries trial;
    private final ActRow acts;
    private final Axis rows;
    private final Axis columns;
    private final Seen seen;
    /** Null where none were kept. */
    private final Entries[] slots;
    private long drawSeed;

    /** A table without entries; its plan is that of abcount.01. */
    public CrossTable() {
        text = new PlanText();
        plan = new Plan();
        draft = new Plan();
        entries = new Entries();
        trial = new Entries();
        acts = new ActRow();
        rows = new Axis();
        columns = new Axis();
        seen = new Seen();
        slots = new Entries[SLOTS];
        drawSeed = 0;
    }

    // ---- the plan

    /** Puts a letter (0 to 255) behind the text: how long it is. */
    public int write(int letter) {
        if (letter < 0 || letter > GREATEST_LETTER) {
            return OUTSIDE;
        }
        return text.put(letter) ? text.length : FULL;
    }

    /** Empties the text: how long it was. */
    public int wipe() {
        int was = text.length;
        text.length = 0;
        return was;
    }

    /** The place of the text's first fault, or NONE. */
    public int fault() {
        return text.readInto(draft);
    }

    /** Makes the text the plan: how many rows there are. */
    public int plan() {
        if (text.readInto(draft) != NONE) {
            return STATE;
        }
        Plan was = plan;
        plan = draft;
        draft = was;
        return rowsOf(entries).size;
    }

    /** Letter i of the measure's word, or NONE. */
    public int word(int i) {
        String word = plan.measure.word;
        return i >= 0 && i < word.length() ? word.charAt(i) : NONE;
    }

    // ---- acts

    /** Adds an entry behind the others: how many there are. */
    public int add(int town, int ware, int amount) {
        if (!isEntry(town, ware, amount)) {
            return OUTSIDE;
        }
        if (!entries.hasRoom()) {
            return FULL;
        }
        acts.next().tell(ADDED, entries.size, town, ware, amount);
        entries.append(town, ware, amount);
        return entries.size;
    }

    /** Drops an entry: its amount. */
    public int drop(int entry) {
        if (!entries.has(entry)) {
            return UNKNOWN;
        }
        int was = entries.amounts[entry];
        acts.next().tell(DROPPED, entry, entries.towns[entry], entries.wares[entry], was);
        entries.remove(entry);
        return was;
    }

    /** Gives an entry another amount, or none: its amount as it was. */
    public int change(int entry, int amount) {
        if (!entries.has(entry)) {
            return UNKNOWN;
        }
        if (!isAmount(amount)) {
            return OUTSIDE;
        }
        int was = entries.amounts[entry];
        acts.next().tell(CHANGED, entry, entries.towns[entry], entries.wares[entry], was);
        entries.amounts[entry] = amount;
        return was;
    }

    /** Takes the last act back: how many are left. */
    public int undo() {
        Act last = acts.takeLast();
        if (last == null) {
            return STATE;
        }
        last.takeBack(entries);
        return acts.size;
    }

    // ---- the table

    /** An entry's town (0), ware (1), amount (2), key of its row (3), of its column (4). */
    public int entry(int entry, int what) {
        if (!entries.has(entry)) {
            return UNKNOWN;
        }
        switch (what) {
            case 0:
                return entries.towns[entry];
            case 1:
                return entries.wares[entry];
            case 2:
                return entries.amounts[entry];
            case 3:
                return rowsOf(entries).keyOfEntry(entry);
            case 4:
                return columnsOf(entries).keyOfEntry(entry);
            default:
                return OUTSIDE;
        }
    }

    /** The key of row i (axis 0), of column i (1), or NONE. */
    public int key(int axis, int i) {
        if (!isAxis(axis)) {
            return OUTSIDE;
        }
        Axis line = axisOf(axis);
        return line.has(i) ? line.keys[i] : NONE;
    }

    /** The measure of a cell, by the keys of its row and column, or NONE. */
    public int cell(int row, int column) {
        return measureOf(entries, cellOf(entries, row, column));
    }

    /** The entries of a cell, as bits. */
    public int drill(int row, int column) {
        return cellOf(entries, row, column);
    }

    /** The measure of a row (axis 0), of a column (1), by its key, or NONE. */
    public int along(int axis, int key) {
        if (!isAxis(axis)) {
            return OUTSIDE;
        }
        return measureOf(entries, axisOf(axis).setOf(key));
    }

    /** The measure of all entries, or NONE. */
    public int total() {
        return totalOf(entries);
    }

    // ---- what would be

    /** With one entry more: the total (0), how many rows there are (1). */
    public int would(int town, int ware, int amount, int what) {
        if (!isEntry(town, ware, amount) || !isOneOfTwo(what)) {
            return OUTSIDE;
        }
        if (!entries.hasRoom()) {
            return FULL;
        }
        trial.copyFrom(entries);
        trial.append(town, ware, amount);
        return what == 0 ? totalOf(trial) : rowsOf(trial).size;
    }

    /** The entry that is best dropped (0), the total then (1), or NONE. */
    public int best(int what) {
        if (!isOneOfTwo(what)) {
            return OUTSIDE;
        }
        int which = NONE;
        int greatest = NONE;
        for (int entry = 0; entry < entries.size; entry++) {
            int then = measureOf(entries, entries.all() & ~(1 << entry));
            if (which == NONE || then > greatest) {
                which = entry;
                greatest = then;
            }
        }
        return what == 0 ? which : greatest;
    }

    /** The place of the first of n told doings that can not be, or is not so; NONE. */
    public int judge(int n, long row) {
        if (n < 1 || n > MOST_DOINGS || row < 0 || row >= DOING_UNITS[n]) {
            return OUTSIDE;
        }
        trial.copyFrom(entries);
        for (int place = 0; place < n; place++) {
            long upTo = row / DOING_UNITS[n - 1 - place];
            if (!stands((int) (upTo % DOING_UNITS[1]))) {
                return place;
            }
        }
        return NONE;
    }

    // ---- seen

    /** Says that with one entry more the measure of a key's row was v (1), or was not (0): how many are seen. */
    public int see(int key, int v, int was) {
        if (!isRowKey(key) || !isSeenMeasure(v) || !isOneOfTwo(was)) {
            return OUTSIDE;
        }
        return seen.put(key, v, was == 1) ? seen.size : FULL;
    }

    /** Forgets all that was seen: how much there was. */
    public int unsee() {
        int was = seen.size;
        seen.size = 0;
        return was;
    }

    /** Of the entries by which all that is seen is so: how many (0), the first (1) or NONE. */
    public int hidden(int what) {
        if (!isOneOfTwo(what)) {
            return OUTSIDE;
        }
        if (!entries.hasRoom()) {
            return FULL;
        }
        // Rows see a town or a ware only if they are grouped by it: else the least one stands for all.
        int towns = plan.rowField == Field.TOWN ? TOWNS : 1;
        int wares = plan.rowField == Field.WARE ? WARES : 1;
        int first = NONE;
        int many = 0;
        for (int town = 0; town < towns; town++) {
            for (int ware = 0; ware < wares; ware++) {
                for (int amount = 0; amount <= MISSING; amount++) {
                    if (isAllSeenSo(town, ware, amount)) {
                        first = many == 0 ? TOWN_UNIT * town + WARE_UNIT * ware + amount : first;
                        many++;
                    }
                }
            }
        }
        int alike = (towns == 1 ? TOWNS : 1) * (wares == 1 ? WARES : 1);
        return what == 0 ? many * alike : first;
    }

    // ---- shares, chances

    /** The share of row i in the total, above (upper) or below its fraction's stroke. */
    public int share(int i, boolean upper) {
        Axis line = rowsOf(entries);
        if (!line.has(i)) {
            return UNKNOWN;
        }
        if (line.size > MOST_SHARED_ROWS) {
            return FULL;
        }
        int above = 0;
        for (int come = 0; come < 1 << line.size; come++) {
            if ((come >> i & 1) == 0) {
                int before = Integer.bitCount(come);
                int orders = ORDERS[before] * ORDERS[line.size - 1 - before];
                int more = worthOf(line.union(come | 1 << i)) - worthOf(line.union(come));
                above += orders * more;
            }
        }
        return fraction(above, ORDERS[line.size], upper);
    }

    /** The chance that v or more is left if each row is lost by x tenths, above (upper) or below the stroke. */
    public int lost(int v, int x, boolean upper) {
        if (v < 0 || v > GREATEST_LOST || x < 0 || x > TENTHS) {
            return OUTSIDE;
        }
        Axis line = rowsOf(entries);
        if (line.size > MOST_SHARED_ROWS) {
            return FULL;
        }
        int above = 0;
        for (int left = 0; left < 1 << line.size; left++) {
            if (measureOf(entries, line.union(left)) >= v) {
                int many = Integer.bitCount(left);
                above += power(TENTHS - x, many) * power(x, line.size - many);
            }
        }
        return fraction(above, power(TENTHS, line.size), upper);
    }

    /** Sets the seed: what it was. */
    public long seed(long v) {
        long was = drawSeed;
        drawSeed = v;
        return was;
    }

    /** The totals after each of m entries drawn by the seed, together. */
    public int drawn(int m) {
        if (m < 1 || m > MOST_DRAWS) {
            return OUTSIDE;
        }
        trial.copyFrom(entries);
        int together = 0;
        for (int draw = 0; draw < m; draw++) {
            drawSeed = drawSeed * DRAW_FACTOR + DRAW_MORE;
            drawIntoTrial((int) (drawSeed >>> DRAW_SHIFT));
            together += noneAsZero(totalOf(trial));
        }
        return together;
    }

    // ---- slots

    /** Keeps the entries in a slot: how many. */
    public int keep(int slot) {
        if (!isSlot(slot)) {
            return UNKNOWN;
        }
        Entries kept = slots[slot];
        if (kept == null) {
            kept = new Entries();
            slots[slot] = kept;
        }
        kept.copyFrom(entries);
        return kept.size;
    }

    /** Goes on from the entries that a slot has: how many. */
    public int again(int slot) {
        if (!isSlot(slot)) {
            return UNKNOWN;
        }
        Entries kept = slots[slot];
        if (kept == null) {
            return STATE;
        }
        entries.copyFrom(kept);
        acts.size = 0;
        return entries.size;
    }

    /** Letters (0), entries (1), rows (2), columns (3), cells (4), entries without an amount (5), acts (6), seen (7). */
    public int count(int what) {
        switch (what) {
            case 0:
                return text.length;
            case 1:
                return entries.size;
            case 2:
                return rowsOf(entries).size;
            case 3:
                return columnsOf(entries).size;
            case 4:
                return rowsOf(entries).meetings(columnsOf(entries));
            case 5:
                return Integer.bitCount(entries.missing());
            case 6:
                return acts.size;
            case 7:
                return seen.size;
            default:
                return OUTSIDE;
        }
    }

    // ---- what numbers are as told

    private static boolean isAmount(int amount) {
        return amount >= 0 && amount <= MISSING;
    }

    private static boolean isEntry(int town, int ware, int amount) {
        return town >= 0 && town < TOWNS && ware >= 0 && ware < WARES && isAmount(amount);
    }

    private static boolean isAxis(int axis) {
        return isOneOfTwo(axis);
    }

    private static boolean isOneOfTwo(int what) {
        return what == 0 || what == 1;
    }

    private static boolean isRowKey(int key) {
        return key >= 0 && key <= MISSING_KEY || key == REST_KEY;
    }

    private static boolean isSeenMeasure(int v) {
        return v == NONE || v >= 0 && v <= GREATEST_SEEN;
    }

    private static boolean isSlot(int slot) {
        return slot >= 0 && slot < SLOTS;
    }

    // ---- the table of the entries, or of a trial

    private Axis rowsOf(Entries some) {
        rows.gather(some, plan.rowField, plan.width);
        rows.foldRest(some, plan.measure, plan.top);
        return rows;
    }

    private Axis columnsOf(Entries some) {
        columns.gather(some, plan.columnField, plan.width);
        return columns;
    }

    private Axis axisOf(int axis) {
        return axis == 0 ? rowsOf(entries) : columnsOf(entries);
    }

    private int cellOf(Entries some, int row, int column) {
        return rowsOf(some).setOf(row) & columnsOf(some).setOf(column);
    }

    private int measureOf(Entries some, int set) {
        return plan.measure.of(some, set);
    }

    private int totalOf(Entries some) {
        return measureOf(some, some.all());
    }

    private int worthOf(int set) {
        return noneAsZero(measureOf(entries, set));
    }

    private static int noneAsZero(int measure) {
        return measure == NONE ? 0 : measure;
    }

    // ---- what is tried

    /** Whether a doing of four figures can be, or is so, on the trial; it is done there. */
    private boolean stands(int doing) {
        int second = doing / 100 % 10;
        int third = doing / 10 % 10;
        int last = doing % 10;
        int pair = doing % 100;
        switch (doing / 1000) {
            case 1:
                return addToTrial(second, third, DOING_AMOUNT * last);
            case 2:
                return second == 0 && dropFromTrial(pair);
            case 3:
                return changeInTrial(pair, DOING_AMOUNT * second);
            case 4:
                return second == 0 && third == 0 && rowsOf(trial).size >= last;
            case 5:
                return measureOf(trial, cellOf(trial, second, third)) >= last;
            case 6:
                return second == 0 && totalOf(trial) >= pair;
            default:
                return false;
        }
    }

    private boolean addToTrial(int town, int ware, int amount) {
        boolean can = isEntry(town, ware, amount) && trial.hasRoom();
        if (can) {
            trial.append(town, ware, amount);
        }
        return can;
    }

    private boolean dropFromTrial(int entry) {
        boolean can = trial.has(entry);
        if (can) {
            trial.remove(entry);
        }
        return can;
    }

    private boolean changeInTrial(int entry, int amount) {
        boolean can = trial.has(entry);
        if (can) {
            trial.amounts[entry] = amount;
        }
        return can;
    }

    private boolean isAllSeenSo(int town, int ware, int amount) {
        trial.copyFrom(entries);
        trial.append(town, ware, amount);
        Axis line = rowsOf(trial);
        for (int i = 0; i < seen.size; i++) {
            boolean was = measureOf(trial, line.setOf(seen.keys[i])) == seen.measures[i];
            if (was != seen.was[i]) {
                return false;
            }
        }
        return true;
    }

    private void drawIntoTrial(int bits) {
        if (trial.hasRoom()) {
            trial.append(bits % TOWNS, bits / 4 % WARES, bits / 32 % (MISSING + 1));
        } else {
            trial.remove(0);
        }
    }

    // ---- fractions

    /** Of a fraction in least terms what is above or below; below is 1 or more. */
    private static int fraction(int above, int below, boolean upper) {
        int divisor = Math.max(1, commonDivisor(Math.abs(above), below));
        return (upper ? above : below) / divisor;
    }

    /** The rounds end long before their bound: Euclid's numbers halve in two rounds. */
    private static int commonDivisor(int a, int b) {
        int greater = a;
        int lesser = b;
        for (int round = 0; round < 100 && lesser != 0; round++) {
            int left = greater % lesser;
            greater = lesser;
            lesser = left;
        }
        return greater;
    }

    private static int power(int base, int times) {
        int product = 1;
        for (int i = 0; i < times; i++) {
            product *= base;
        }
        return product;
    }

    /** By what entries are grouped. */
    private enum Field {
        TOWN, WARE, AMOUNT, ALL;

        /** The field that a plan's letter names; null: none. */
        static Field named(int letter) {
            switch (letter) {
                case 'a':
                    return TOWN;
                case 'b':
                    return WARE;
                case 'v':
                    return AMOUNT;
                case '-':
                    return ALL;
                default:
                    return null;
            }
        }

        int keyOf(Entries some, int entry, int width) {
            if (this == TOWN) {
                return some.towns[entry];
            }
            if (this == WARE) {
                return some.wares[entry];
            }
            if (this == AMOUNT) {
                return binOf(some.amounts[entry], Math.max(1, BIN_UNIT * width));
            }
            return 0;
        }

        private static int binOf(int amount, int binWidth) {
            return amount == MISSING ? MISSING_KEY : amount / binWidth;
        }
    }

    /** What is told of a set of entries. */
    private enum Measure {
        COUNT("count"), SUM("sum"), MOST("most"), LEAST("least"), KINDS("kinds");

        final String word;

        Measure(String word) {
            this.word = word;
        }

        /** No two words begin alike, so the first letter tells which is meant; null: none. */
        static Measure startingWith(int letter) {
            switch (letter) {
                case 'c':
                    return COUNT;
                case 's':
                    return SUM;
                case 'm':
                    return MOST;
                case 'l':
                    return LEAST;
                case 'k':
                    return KINDS;
                default:
                    return null;
            }
        }

        int of(Entries some, int set) {
            if (set == 0) {
                return NONE;
            }
            if (this == COUNT) {
                return Integer.bitCount(set);
            }
            int told = set & ~some.missing();
            if (this == SUM) {
                return some.sumOf(told);
            }
            if (this == MOST) {
                return some.mostOf(told);
            }
            return this == LEAST ? some.leastOf(told) : some.kindsOf(told);
        }
    }

    /** How entries are grouped and measured; at first that of abcount.01. */
    private static final class Plan {
        Field rowField = Field.TOWN;
        Field columnField = Field.WARE;
        Measure measure = Measure.COUNT;
        int top = 0;
        int width = 1;
    }

    /** The letters by which a plan is told. */
    private static final class PlanText {
        private static final int NO_LETTER = -1;
        private static final int FIELDS = 2;

        private final int[] letters = new int[MOST_LETTERS];
        int length = 0;

        boolean put(int letter) {
            boolean room = length < letters.length;
            if (room) {
                letters[length] = letter;
                length++;
            }
            return room;
        }

        /**
         * The place of the first fault, or NONE; then the plan has what the text tells. Where the text ends
         * too early NO_LETTER is met, which fits nowhere: so the fault's place is the length by itself.
         */
        int readInto(Plan plan) {
            Field rowField = Field.named(letterAt(0));
            if (rowField == null || rowField == Field.ALL) {
                return 0;
            }
            Field columnField = Field.named(letterAt(1));
            if (columnField == null || columnField == rowField) {
                return 1;
            }
            Measure measure = Measure.startingWith(letterAt(FIELDS));
            if (measure == null) {
                return FIELDS;
            }
            int stop = FIELDS + spelt(measure.word);
            if (stop < FIELDS + measure.word.length() || letterAt(stop) != '.') {
                return stop;
            }
            int top = figureAt(stop + 1);
            if (top < 0 || top > GREATEST_TOP) {
                return stop + 1;
            }
            int width = figureAt(stop + 2);
            if (width < 1) {
                return stop + 2;
            }
            if (length > stop + 3) {
                return stop + 3;
            }
            plan.rowField = rowField;
            plan.columnField = columnField;
            plan.measure = measure;
            plan.top = top;
            plan.width = width;
            return NONE;
        }

        /** How many letters of a word stand behind the fields before the first that is another. */
        private int spelt(String word) {
            for (int i = 0; i < word.length(); i++) {
                if (letterAt(FIELDS + i) != word.charAt(i)) {
                    return i;
                }
            }
            return word.length();
        }

        private int letterAt(int place) {
            return place >= 0 && place < length ? letters[place] : NO_LETTER;
        }

        private int figureAt(int place) {
            int letter = letterAt(place);
            return letter >= '0' && letter <= '9' ? letter - '0' : -1;
        }
    }

    /** Entries in their row. */
    private static final class Entries {
        final int[] towns = new int[MOST_ENTRIES];
        final int[] wares = new int[MOST_ENTRIES];
        final int[] amounts = new int[MOST_ENTRIES];
        int size = 0;

        boolean has(int place) {
            return place >= 0 && place < size;
        }

        boolean hasRoom() {
            return size < MOST_ENTRIES;
        }

        int all() {
            return (1 << size) - 1;
        }

        void append(int town, int ware, int amount) {
            insert(size, town, ware, amount);
        }

        void insert(int place, int town, int ware, int amount) {
            if (!hasRoom() || place < 0 || place > size) {
                return;
            }
            shift(place, place + 1, size - place);
            towns[place] = town;
            wares[place] = ware;
            amounts[place] = amount;
            size++;
        }

        void remove(int place) {
            if (!has(place)) {
                return;
            }
            shift(place + 1, place, size - place - 1);
            size--;
        }

        private void shift(int from, int to, int many) {
            System.arraycopy(towns, from, towns, to, many);
            System.arraycopy(wares, from, wares, to, many);
            System.arraycopy(amounts, from, amounts, to, many);
        }

        void copyFrom(Entries other) {
            size = other.size;
            System.arraycopy(other.towns, 0, towns, 0, size);
            System.arraycopy(other.wares, 0, wares, 0, size);
            System.arraycopy(other.amounts, 0, amounts, 0, size);
        }

        /** The entries without an amount, as bits. The sets that are measured below have none of them. */
        int missing() {
            int set = 0;
            for (int i = 0; i < size; i++) {
                if (amounts[i] == MISSING) {
                    set |= 1 << i;
                }
            }
            return set;
        }

        int sumOf(int set) {
            int sum = 0;
            for (int i = 0; i < size; i++) {
                if ((set >> i & 1) == 1) {
                    sum += amounts[i];
                }
            }
            return sum;
        }

        int mostOf(int set) {
            int most = NONE;
            for (int i = 0; i < size; i++) {
                if ((set >> i & 1) == 1 && amounts[i] > most) {
                    most = amounts[i];
                }
            }
            return most;
        }

        int leastOf(int set) {
            int least = MISSING;
            for (int i = 0; i < size; i++) {
                if ((set >> i & 1) == 1 && amounts[i] < least) {
                    least = amounts[i];
                }
            }
            return least == MISSING ? NONE : least;
        }

        /** Amounts go to 99, so two longs have a bit for each; a shift of a long goes by what is left by 64. */
        int kindsOf(int set) {
            long low = 0;
            long high = 0;
            for (int i = 0; i < size; i++) {
                if ((set >> i & 1) == 1) {
                    if (amounts[i] < LONG_BITS) {
                        low |= 1L << amounts[i];
                    } else {
                        high |= 1L << amounts[i];
                    }
                }
            }
            return Long.bitCount(low) + Long.bitCount(high);
        }
    }

    /** What was done to one entry, with the entry as it must be to take it back. */
    private static final class Act {
        private int kind;
        private int place;
        private int town;
        private int ware;
        private int amount;

        void tell(int kind, int place, int town, int ware, int amount) {
            this.kind = kind;
            this.place = place;
            this.town = town;
            this.ware = ware;
            this.amount = amount;
        }

        void takeBack(Entries entries) {
            if (kind == ADDED) {
                entries.remove(place);
            } else if (kind == DROPPED) {
                entries.insert(place, town, ware, amount);
            } else if (entries.has(place)) {
                entries.amounts[place] = amount;
            }
        }
    }

    /** The last acts. */
    private static final class ActRow {
        private final Act[] acts = new Act[MOST_ACTS];
        int size = 0;

        ActRow() {
            for (int i = 0; i < acts.length; i++) {
                acts[i] = new Act();
            }
        }

        /** Room for one act more; if there is none, the first act is forgotten and gives its own. */
        Act next() {
            if (size < MOST_ACTS) {
                size++;
                return acts[size - 1];
            }
            Act first = acts[0];
            for (int i = 1; i < MOST_ACTS; i++) {
                acts[i - 1] = acts[i];
            }
            acts[MOST_ACTS - 1] = first;
            return first;
        }

        /** The last act, which is no longer in the row; null: there is none. */
        Act takeLast() {
            if (size < 1) {
                return null;
            }
            size--;
            return acts[size];
        }
    }

    /** Rows or columns, each a key and the set of its entries, by their keys. */
    private static final class Axis {
        final int[] keys = new int[MISSING_KEY + 1];
        private final int[] sets = new int[MISSING_KEY + 1];
        private final int[] measures = new int[MISSING_KEY + 1];
        int size = 0;

        boolean has(int place) {
            return place >= 0 && place < size;
        }

        /** At first a set stands at its key; then those with entries close up, never past their own place. */
        void gather(Entries some, Field field, int width) {
            Arrays.fill(sets, 0);
            for (int i = 0; i < some.size; i++) {
                int key = field.keyOf(some, i, width);
                if (key >= 0 && key < sets.length) {
                    sets[key] |= 1 << i;
                }
            }
            size = 0;
            for (int key = 0; key < sets.length; key++) {
                if (sets[key] != 0) {
                    keys[size] = key;
                    sets[size] = sets[key];
                    size++;
                }
            }
        }

        /** Leaves the top groups by their measure as they are, and puts all others together behind them. */
        void foldRest(Entries some, Measure measure, int top) {
            if (top < 1 || size <= top) {
                return;
            }
            for (int i = 0; i < size; i++) {
                measures[i] = measure.of(some, sets[i]);
            }
            int kept = 0;
            for (int round = 0; round < top; round++) {
                kept |= 1 << greatestBut(kept);
            }
            closeUp(kept);
        }

        /** The free place of greatest measure, of like ones the first; NONE is less than every other measure. */
        private int greatestBut(int taken) {
            int greatest = 0;
            boolean found = false;
            for (int i = 0; i < size; i++) {
                boolean free = (taken >> i & 1) == 0;
                if (free && (!found || measures[i] > measures[greatest])) {
                    greatest = i;
                    found = true;
                }
            }
            return greatest;
        }

        /** Puts the kept places, which are told as bits, to the front, and the entries of all others behind them. */
        private void closeUp(int kept) {
            int rest = 0;
            int next = 0;
            for (int i = 0; i < size; i++) {
                if ((kept >> i & 1) == 1) {
                    keys[next] = keys[i];
                    sets[next] = sets[i];
                    next++;
                } else {
                    rest |= sets[i];
                }
            }
            if (next < size) {
                keys[next] = REST_KEY;
                sets[next] = rest;
                size = next + 1;
            }
        }

        /** The entries of a key; none: there is no such key. */
        int setOf(int key) {
            for (int i = 0; i < size; i++) {
                if (keys[i] == key) {
                    return sets[i];
                }
            }
            return 0;
        }

        int keyOfEntry(int entry) {
            for (int i = 0; i < size; i++) {
                if ((sets[i] >> entry & 1) == 1) {
                    return keys[i];
                }
            }
            return NONE;
        }

        /** All entries of some places, which are told as bits. */
        int union(int places) {
            int all = 0;
            for (int i = 0; i < size; i++) {
                if ((places >> i & 1) == 1) {
                    all |= sets[i];
                }
            }
            return all;
        }

        /** How many pairs of this axis and another have entries in common. */
        int meetings(Axis other) {
            int many = 0;
            for (int i = 0; i < size; i++) {
                for (int j = 0; j < other.size; j++) {
                    if ((sets[i] & other.sets[j]) != 0) {
                        many++;
                    }
                }
            }
            return many;
        }
    }

    /** What was seen of the rows when there was one entry more. */
    private static final class Seen {
        final int[] keys = new int[MOST_SEEN];
        final int[] measures = new int[MOST_SEEN];
        final boolean[] was = new boolean[MOST_SEEN];
        int size = 0;

        boolean put(int key, int measure, boolean wasSo) {
            boolean room = size < MOST_SEEN;
            if (room) {
                keys[size] = key;
                measures[size] = measure;
                was[size] = wasSo;
                size++;
            }
            return room;
        }
    }
}
