import java.math.BigInteger;
import java.util.ArrayDeque;
import java.util.ArrayList;
import java.util.Deque;
import java.util.HashSet;
import java.util.List;
import java.util.Set;
import java.util.TreeMap;

/**
 * The document's words once more, in the slowest and plainest way and with none of the class's own ideas: plans
 * are all listed, acts are undone by whole copies, shares go through every order, hidden entries through all.
 */
final class Oracle {
    private static final int UNKNOWN = -1, OUTSIDE = -2, STATE = -3, FULL = -4, NONE = -9;
    private static final Set<String> PLANS = allPlans();
    private static final Set<String> BEGINNINGS = allBeginnings();

    private record Entry(int town, int ware, int amount) {
    }

    private record Sight(int key, int v, boolean was) {
    }

    private String text = "";
    private String plan = "abcount.01";
    private List<Entry> entries = new ArrayList<>();
    private final Deque<List<Entry>> before = new ArrayDeque<>();
    private final List<Sight> seen = new ArrayList<>();
    private final List<List<Entry>> slots = new ArrayList<>(java.util.Arrays.asList(null, null));
    private long seed = 0;

    private static Set<String> allPlans() {
        Set<String> all = new HashSet<>();
        for (String row : new String[] {"a", "b", "v"}) {
            for (String column : new String[] {"a", "b", "v", "-"}) {
                for (String measure : new String[] {"count", "sum", "most", "least", "kinds"}) {
                    for (int n = 0; n <= 4 && !row.equals(column); n++) {
                        for (int w = 1; w <= 9; w++) {
                            all.add(row + column + measure + "." + n + w);
                        }
                    }
                }
            }
        }
        return all;
    }

    private static Set<String> allBeginnings() {
        Set<String> all = new HashSet<>();
        for (String one : PLANS) {
            for (int i = 0; i <= one.length(); i++) {
                all.add(one.substring(0, i));
            }
        }
        return all;
    }

    // ---- the plan

    int write(int letter) {
        if (letter < 0 || letter > 255) {
            return OUTSIDE;
        }
        if (text.length() == 32) {
            return FULL;
        }
        text += (char) letter;
        return text.length();
    }

    int wipe() {
        int was = text.length();
        text = "";
        return was;
    }

    int fault() {
        if (PLANS.contains(text)) {
            return NONE;
        }
        int good = 0;
        while (good < text.length() && BEGINNINGS.contains(text.substring(0, good + 1))) {
            good++;
        }
        return good;
    }

    int plan() {
        if (fault() != NONE) {
            return STATE;
        }
        plan = text;
        return rows(entries).size();
    }

    private String measureWord() {
        return plan.substring(2, plan.indexOf('.'));
    }

    int word(int i) {
        return i < 0 || i >= measureWord().length() ? NONE : measureWord().charAt(i);
    }

    // ---- acts

    private void act() {
        before.addLast(new ArrayList<>(entries));
        if (before.size() > 14) {
            before.removeFirst();
        }
    }

    private static boolean told(int town, int ware, int amount) {
        return town >= 0 && town <= 3 && ware >= 0 && ware <= 4 && amount >= 0 && amount <= 100;
    }

    private boolean known(int entry) {
        return entry >= 0 && entry < entries.size();
    }

    int add(int town, int ware, int amount) {
        if (!told(town, ware, amount)) {
            return OUTSIDE;
        }
        if (entries.size() == 16) {
            return FULL;
        }
        act();
        entries.add(new Entry(town, ware, amount));
        return entries.size();
    }

    int drop(int entry) {
        if (!known(entry)) {
            return UNKNOWN;
        }
        act();
        return entries.remove(entry).amount;
    }

    int change(int entry, int amount) {
        if (!known(entry)) {
            return UNKNOWN;
        }
        if (amount < 0 || amount > 100) {
            return OUTSIDE;
        }
        act();
        Entry was = entries.get(entry);
        entries.set(entry, new Entry(was.town, was.ware, amount));
        return was.amount;
    }

    int undo() {
        if (before.isEmpty()) {
            return STATE;
        }
        entries = before.removeLast();
        return before.size();
    }

    // ---- the table

    private int keyBy(Entry e, char field) {
        return switch (field) {
            case 'a' -> e.town;
            case 'b' -> e.ware;
            case 'v' -> e.amount == 100 ? 20 : e.amount / (5 * (plan.charAt(plan.length() - 1) - '0'));
            default -> 0;
        };
    }

    private int measure(List<Entry> some) {
        if (some.isEmpty()) {
            return NONE;
        }
        List<Integer> amounts = some.stream().map(Entry::amount).filter(v -> v != 100).sorted().toList();
        return switch (measureWord()) {
            case "count" -> some.size();
            case "sum" -> amounts.stream().mapToInt(v -> v).sum();
            case "most" -> amounts.isEmpty() ? NONE : amounts.get(amounts.size() - 1);
            case "least" -> amounts.isEmpty() ? NONE : amounts.get(0);
            default -> (int) amounts.stream().distinct().count();
        };
    }

    private TreeMap<Integer, List<Entry>> grouped(List<Entry> some, char field) {
        TreeMap<Integer, List<Entry>> groups = new TreeMap<>();
        for (Entry e : some) {
            groups.computeIfAbsent(keyBy(e, field), k -> new ArrayList<>()).add(e);
        }
        return groups;
    }

    private TreeMap<Integer, List<Entry>> rows(List<Entry> some) {
        TreeMap<Integer, List<Entry>> groups = grouped(some, plan.charAt(0));
        int n = plan.charAt(plan.length() - 2) - '0';
        if (n == 0 || groups.size() <= n) {
            return groups;
        }
        List<Integer> ranked = new ArrayList<>(groups.keySet());
        ranked.sort((j, k) -> {
            int byMeasure = Integer.compare(measure(groups.get(k)), measure(groups.get(j)));
            return byMeasure != 0 ? byMeasure : Integer.compare(j, k);
        });
        Set<Integer> top = new HashSet<>(ranked.subList(0, n));
        TreeMap<Integer, List<Entry>> rows = new TreeMap<>();
        for (Entry e : some) {
            int key = keyBy(e, plan.charAt(0));
            rows.computeIfAbsent(top.contains(key) ? key : 99, k -> new ArrayList<>()).add(e);
        }
        return rows;
    }

    private TreeMap<Integer, List<Entry>> columns(List<Entry> some) {
        return grouped(some, plan.charAt(1));
    }

    private static boolean holds(List<Entry> some, Entry one) {
        return some != null && some.stream().anyMatch(e -> e == one);
    }

    int entry(int entry, int what) {
        if (!known(entry)) {
            return UNKNOWN;
        }
        Entry e = entries.get(entry);
        return switch (what) {
            case 0 -> e.town;
            case 1 -> e.ware;
            case 2 -> e.amount;
            case 3 -> rows(entries).entrySet().stream().filter(r -> holds(r.getValue(), e)).findFirst().get().getKey();
            case 4 -> keyBy(e, plan.charAt(1));
            default -> OUTSIDE;
        };
    }

    int key(int axis, int i) {
        if (axis != 0 && axis != 1) {
            return OUTSIDE;
        }
        List<Integer> keys = new ArrayList<>((axis == 0 ? rows(entries) : columns(entries)).keySet());
        return i < 0 || i >= keys.size() ? NONE : keys.get(i);
    }

    private List<Entry> cellOf(List<Entry> some, int row, int column) {
        List<Entry> ofRow = rows(some).get(row);
        List<Entry> ofColumn = columns(some).get(column);
        return some.stream().filter(e -> holds(ofRow, e) && holds(ofColumn, e)).toList();
    }

    int cell(int row, int column) {
        return measure(cellOf(entries, row, column));
    }

    int drill(int row, int column) {
        List<Entry> cell = cellOf(entries, row, column);
        int bits = 0;
        for (int i = 0; i < entries.size(); i++) {
            bits += holds(cell, entries.get(i)) ? 1 << i : 0;
        }
        return bits;
    }

    int along(int axis, int key) {
        if (axis != 0 && axis != 1) {
            return OUTSIDE;
        }
        return measure((axis == 0 ? rows(entries) : columns(entries)).getOrDefault(key, List.of()));
    }

    int total() {
        return measure(entries);
    }

    // ---- what would be

    private static List<Entry> with(List<Entry> some, int town, int ware, int amount) {
        List<Entry> more = new ArrayList<>(some);
        more.add(new Entry(town, ware, amount));
        return more;
    }

    private static List<Entry> without(List<Entry> some, int entry) {
        List<Entry> less = new ArrayList<>(some);
        less.remove(entry);
        return less;
    }

    int would(int town, int ware, int amount, int what) {
        if (!told(town, ware, amount) || what < 0 || what > 1) {
            return OUTSIDE;
        }
        if (entries.size() == 16) {
            return FULL;
        }
        List<Entry> more = with(entries, town, ware, amount);
        return what == 0 ? measure(more) : rows(more).size();
    }

    int best(int what) {
        if (what < 0 || what > 1) {
            return OUTSIDE;
        }
        if (entries.isEmpty()) {
            return NONE;
        }
        int best = 0;
        for (int i = 1; i < entries.size(); i++) {
            if (measure(without(entries, i)) > measure(without(entries, best))) {
                best = i;
            }
        }
        return what == 0 ? best : measure(without(entries, best));
    }

    int judge(int n, long row) {
        if (n < 1 || n > 4 || row < 0 || Long.toString(row).length() > 4 * n) {
            return OUTSIDE;
        }
        String figures = "0".repeat(4 * n - Long.toString(row).length()) + row;
        List<Entry> now = new ArrayList<>(entries);
        for (int place = 0; place < n; place++) {
            String doing = figures.substring(4 * place, 4 * place + 4);
            int pair = Integer.parseInt(doing.substring(2));
            int[] f = doing.chars().map(c -> c - '0').toArray();
            if (doing.matches("1[0-3][0-4].") && now.size() < 16) {
                now.add(new Entry(f[1], f[2], 11 * f[3]));
            } else if (doing.startsWith("20") && pair < now.size()) {
                now.remove(pair);
            } else if (doing.startsWith("3") && pair < now.size()) {
                now.set(pair, new Entry(now.get(pair).town, now.get(pair).ware, 11 * f[1]));
            } else if (doing.startsWith("400") && rows(now).size() >= f[3]) {
                continue;
            } else if (doing.startsWith("5") && measure(cellOf(now, f[1], f[2])) >= f[3]) {
                continue;
            } else if (!(doing.startsWith("60") && measure(now) >= pair)) {
                return place;
            }
        }
        return NONE;
    }

    // ---- seen

    int see(int key, int v, int was) {
        boolean keyTold = key == 99 || key >= 0 && key <= 20;
        boolean vTold = v == -9 || v >= 0 && v <= 9999;
        if (!keyTold || !vTold || was < 0 || was > 1) {
            return OUTSIDE;
        }
        if (seen.size() == 6) {
            return FULL;
        }
        seen.add(new Sight(key, v, was == 1));
        return seen.size();
    }

    int unsee() {
        int was = seen.size();
        seen.clear();
        return was;
    }

    int hidden(int what) {
        if (what < 0 || what > 1) {
            return OUTSIDE;
        }
        if (entries.size() == 16) {
            return FULL;
        }
        int many = 0;
        int first = NONE;
        for (int town = 3; town >= 0; town--) {
            for (int ware = 4; ware >= 0; ware--) {
                for (int amount = 100; amount >= 0; amount--) {
                    TreeMap<Integer, List<Entry>> rows = rows(with(entries, town, ware, amount));
                    if (seen.stream().allMatch(s -> s.was == (measure(rows.getOrDefault(s.key, List.of())) == s.v))) {
                        many++;
                        first = 10000 * town + 1000 * ware + amount;
                    }
                }
            }
        }
        return what == 0 ? many : first;
    }

    // ---- shares, chances

    private static int fraction(long above, long below, boolean upper) {
        BigInteger a = BigInteger.valueOf(above);
        BigInteger b = BigInteger.valueOf(below);
        BigInteger g = a.gcd(b);
        return (upper ? a : b).divide(g).intValueExact();
    }

    private int orNothing(List<Entry> some) {
        return Math.max(0, measure(some));
    }

    int share(int i, boolean upper) {
        List<List<Entry>> rows = new ArrayList<>(rows(entries).values());
        if (i < 0 || i >= rows.size()) {
            return UNKNOWN;
        }
        if (rows.size() > 6) {
            return FULL;
        }
        long[] sums = new long[2];
        goThroughOrders(rows, new ArrayList<>(), i, sums);
        return fraction(sums[0], sums[1], upper);
    }

    /** sums: by how much in all orders together it was more, and how many orders there were. */
    private void goThroughOrders(List<List<Entry>> rows, List<Integer> order, int i, long[] sums) {
        if (order.size() == rows.size()) {
            List<Entry> come = new ArrayList<>();
            for (int place : order) {
                int was = orNothing(come);
                come.addAll(rows.get(place));
                sums[0] += place == i ? orNothing(come) - was : 0;
            }
            sums[1]++;
            return;
        }
        for (int place = 0; place < rows.size(); place++) {
            if (!order.contains(place)) {
                order.add(place);
                goThroughOrders(rows, order, i, sums);
                order.remove(order.size() - 1);
            }
        }
    }

    int lost(int v, int x, boolean upper) {
        if (v < 0 || v > 999 || x < 0 || x > 10) {
            return OUTSIDE;
        }
        List<List<Entry>> rows = new ArrayList<>(rows(entries).values());
        if (rows.size() > 6) {
            return FULL;
        }
        long all = 1;
        for (int i = 0; i < rows.size(); i++) {
            all *= 10;
        }
        return fraction(waysLeft(rows, 0, List.of(), v, x), all, upper);
    }

    private long waysLeft(List<List<Entry>> rows, int next, List<Entry> left, int v, int x) {
        if (next == rows.size()) {
            int then = measure(left);
            return then != NONE && then >= v ? 1 : 0;
        }
        List<Entry> stays = new ArrayList<>(left);
        stays.addAll(rows.get(next));
        return x * waysLeft(rows, next + 1, left, v, x) + (10 - x) * waysLeft(rows, next + 1, stays, v, x);
    }

    long seed(long v) {
        long was = seed;
        seed = v;
        return was;
    }

    int drawn(int m) {
        if (m < 1 || m > 20) {
            return OUTSIDE;
        }
        BigInteger room = BigInteger.ONE.shiftLeft(64);
        List<Entry> now = new ArrayList<>(entries);
        int together = 0;
        for (int i = 0; i < m; i++) {
            BigInteger x = BigInteger.valueOf(seed).multiply(new BigInteger("6364136223846793005"))
                    .add(new BigInteger("1442695040888963407")).mod(room);
            seed = x.longValue();
            long upper = x.shiftRight(33).longValueExact();
            if (now.size() < 16) {
                now.add(new Entry((int) (upper % 4), (int) (upper / 4 % 5), (int) (upper / 32 % 101)));
            } else {
                now.remove(0);
            }
            together += orNothing(now);
        }
        return together;
    }

    // ---- slots

    int keep(int slot) {
        if (slot < 0 || slot > 1) {
            return UNKNOWN;
        }
        slots.set(slot, new ArrayList<>(entries));
        return entries.size();
    }

    int again(int slot) {
        if (slot < 0 || slot > 1) {
            return UNKNOWN;
        }
        if (slots.get(slot) == null) {
            return STATE;
        }
        entries = new ArrayList<>(slots.get(slot));
        before.clear();
        return entries.size();
    }

    int count(int what) {
        return switch (what) {
            case 0 -> text.length();
            case 1 -> entries.size();
            case 2 -> rows(entries).size();
            case 3 -> columns(entries).size();
            case 4 -> cells();
            case 5 -> (int) entries.stream().filter(e -> e.amount == 100).count();
            case 6 -> before.size();
            case 7 -> seen.size();
            default -> OUTSIDE;
        };
    }

    private int cells() {
        int many = 0;
        for (int row : rows(entries).keySet()) {
            for (int column : columns(entries).keySet()) {
                many += cellOf(entries, row, column).isEmpty() ? 0 : 1;
            }
        }
        return many;
    }
}
