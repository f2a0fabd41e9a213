import java.math.BigInteger;
import java.util.ArrayDeque;
import java.util.ArrayList;
import java.util.Arrays;
import java.util.Collections;
import java.util.Comparator;
import java.util.Deque;
import java.util.List;
import java.util.TreeMap;

/** A second reading of the document, slow and with the whole library, to compare the class with. */
final class Reference {
    static final int NONE = -9;

    /** A state that never changes, so that remembering it is keeping it. */
    record State(List<List<Integer>> counts, List<Integer> items, List<Integer> plan,
                 List<Integer> digits, List<Integer> heads) {
        State {
            counts = List.copyOf(counts);
            items = List.copyOf(items);
            plan = List.copyOf(plan);
            digits = List.copyOf(digits);
            heads = List.copyOf(heads);
        }

        State withCounts(List<List<Integer>> c) {
            return new State(c, items, plan, digits, heads);
        }

        State withItems(List<Integer> i) {
            return new State(counts, i, plan, digits, heads);
        }

        State withTape(List<Integer> p, List<Integer> d, List<Integer> h) {
            return new State(counts, items, p, d, h);
        }
    }

    record Table(List<Integer> frequencies, int[] rests, int[] aliases, int[] symbolOfSlot) {
        List<Integer> slotsOf(int s) {
            List<Integer> slots = new ArrayList<>();
            for (int k = 0; k < 32; k++) {
                if (symbolOfSlot[k] == s) {
                    slots.add(k);
                }
            }
            return slots;
        }
    }

    record Put(int symbol, int model) {
    }

    record Taken(int symbol, int state, int left, int removed) {
    }

    record Outcome(List<Taken> rows, int failedAt, boolean intact) {
        int symbol(int k) {
            return k < rows.size() ? rows.get(k).symbol : NONE;
        }
    }

    private final StringBuilder text = new StringBuilder();
    private final Deque<State> past = new ArrayDeque<>();
    private final State[] saved = new State[2];
    private int n = 2;
    private State now = new State(List.of(List.of(1, 1)), List.of(), List.of(), List.of(), List.of(512, 512));

    private static void index(boolean there) {
        if (!there) {
            throw new IndexOutOfBoundsException();
        }
    }

    private static void argument(boolean good) {
        if (!good) {
            throw new IllegalArgumentException();
        }
    }

    private static void state(boolean good) {
        if (!good) {
            throw new IllegalStateException();
        }
    }

    private static boolean in(long x, long from, long to) {
        return from <= x && x <= to;
    }

    private boolean isModel(int m) {
        return in(m, 0, now.counts.size() - 1);
    }

    private boolean isSymbol(int s) {
        return in(s, 0, n - 1);
    }

    private static <T> List<T> changed(List<T> list, int i, T value) {
        List<T> result = new ArrayList<>(list);
        result.set(i, value);
        return result;
    }

    private void act(State next) {
        past.addLast(now);
        if (past.size() > 14) {
            past.removeFirst();
        }
        now = next;
    }

    // ---- text

    long append(int c) {
        argument(in(c, 0, 255));
        state(text.length() < 100);
        text.append((char) c);
        return text.length();
    }

    long clearText() {
        int length = text.length();
        text.setLength(0);
        return length;
    }

    private static boolean isText(String t) {
        for (int n = 2; n <= 8; n++) {
            for (int models = 1; models <= 3; models++) {
                String model = "(m(?!0{" + 2 * n + "})[0-9]{" + 2 * n + "})";
                String item = "[a-" + (char) ('a' + n - 1) + "0-" + (models - 1) + "]";
                if (t.matches("(?s)A" + n + model + "{" + models + "}(:" + item + "{1,40})?")) {
                    return true;
                }
            }
        }
        return false;
    }

    /** A beginning is allowed if one of some endings, between them enough for all, makes a text of it. */
    private static boolean mayBegin(String begin) {
        for (int n = 2; n <= 8; n++) {
            String sample = "A" + n + "m" + "1".repeat(2 * n) + ":a";
            for (int i = 0; i <= sample.length(); i++) {
                if (isText(begin + sample.substring(i))) {
                    return true;
                }
            }
        }
        for (int i = 0; i <= 16; i++) {
            if (isText(begin + "1".repeat(i))) {
                return true;
            }
        }
        return false;
    }

    long errorPosition() {
        String t = text.toString();
        if (isText(t)) {
            return NONE;
        }
        int good = 0;
        while (good < t.length() && mayBegin(t.substring(0, good + 1))) {
            good++;
        }
        return good;
    }

    long load() {
        String t = text.toString();
        state(isText(t));
        String[] parts = t.split(":");
        n = t.charAt(1) - '0';
        List<List<Integer>> counts = new ArrayList<>();
        for (String model : parts[0].substring(3).split("m")) {
            List<Integer> row = new ArrayList<>();
            for (int s = 0; s < n; s++) {
                row.add(Integer.parseInt(model.substring(2 * s, 2 * s + 2)));
            }
            counts.add(List.copyOf(row));
        }
        List<Integer> items = new ArrayList<>();
        for (char c : (parts.length > 1 ? parts[1] : "").toCharArray()) {
            items.add(c >= 'a' ? c - 'a' : c - '0' + 10);
        }
        now = new State(counts, items, List.of(), List.of(), List.of(512, 512));
        past.clear();
        Arrays.fill(saved, null);
        return items.size();
    }

    // ---- tables

    private static List<Integer> frequencies(List<Integer> counts) {
        int total = counts.stream().mapToInt(c -> c).sum();
        List<Integer> result = new ArrayList<>();
        List<Integer> byRemainder = new ArrayList<>();
        for (int s = 0; s < counts.size(); s++) {
            int c = counts.get(s);
            result.add(c == 0 ? 0 : 32 * c < total ? 1 : 32 * c / total);
            if (c > 0) {
                byRemainder.add(s);
            }
        }
        byRemainder.sort(Comparator.<Integer>comparingInt(s -> -(32 * counts.get(s) % total))
                .thenComparingInt(s -> s));
        for (int i = 0; sum(result) < 32; i++) {
            int s = byRemainder.get(i % byRemainder.size());
            result.set(s, result.get(s) + 1);
        }
        while (sum(result) > 32) {
            int s = result.lastIndexOf(Collections.max(result));
            result.set(s, result.get(s) - 1);
        }
        return result;
    }

    private static int sum(List<Integer> list) {
        return list.stream().mapToInt(i -> i).sum();
    }

    private Table table(int m) {
        List<Integer> f = frequencies(now.counts.get(m));
        TreeMap<Integer, Integer> open = new TreeMap<>();
        for (int b = 0; b < 8; b++) {
            open.put(b, b < f.size() ? f.get(b) : 0);
        }
        int[] rests = new int[8];
        int[] aliases = new int[8];
        int[] symbolOfSlot = new int[32];
        while (!open.isEmpty()) {
            int b = open.keySet().stream().filter(k -> open.get(k) <= 4).findFirst().orElseThrow();
            int rest = open.remove(b);
            int alias = NONE;
            if (rest < 4) {
                int most = Collections.max(open.values());
                alias = open.keySet().stream().filter(k -> open.get(k) == most).findFirst().orElseThrow();
                open.put(alias, most - (4 - rest));
            }
            rests[b] = rest;
            aliases[b] = alias;
            for (int i = 0; i < 4; i++) {
                symbolOfSlot[4 * b + i] = i < rest ? b : alias;
            }
        }
        return new Table(f, rests, aliases, symbolOfSlot);
    }

    // ---- message and tape

    private List<Put> symbols(State state) {
        List<Put> result = new ArrayList<>();
        int model = 0;
        for (int item : state.items) {
            if (item >= 10) {
                model = item - 10;
            } else {
                result.add(new Put(item, model));
            }
        }
        return result;
    }

    private int unfit(List<Put> puts) {
        for (int k = 0; k < puts.size(); k++) {
            if (table(puts.get(k).model).frequencies.get(puts.get(k).symbol) == 0) {
                return k;
            }
        }
        return NONE;
    }

    private State encode(State state, List<Put> puts) {
        List<Integer> plan = new ArrayList<>();
        List<Integer> digits = new ArrayList<>();
        int[] heads = {512, 512};
        for (Put p : puts) {
            plan.add(p.model);
        }
        for (int k = puts.size() - 1; k >= 0; k--) {
            Table table = table(puts.get(k).model);
            int f = table.frequencies.get(puts.get(k).symbol);
            int x = heads[k & 1];
            while (x >= 256 * f) {
                digits.add(x & 15);
                x >>= 4;
            }
            heads[k & 1] = (x / f << 5) + table.slotsOf(puts.get(k).symbol).get(x % f);
        }
        return state.withTape(plan, digits, List.of(heads[0], heads[1]));
    }

    private Outcome take(State state) {
        Deque<Integer> digits = new ArrayDeque<>(state.digits);
        int[] heads = {state.heads.get(0), state.heads.get(1)};
        List<Taken> rows = new ArrayList<>();
        for (int k = 0; k < state.plan.size(); k++) {
            Table table = table(state.plan.get(k));
            int before = heads[k & 1];
            int left = digits.size();
            int slot = before & 31;
            int s = table.symbolOfSlot[slot];
            int x = table.frequencies.get(s) * (before >> 5) + table.slotsOf(s).indexOf(slot);
            while (x < 512) {
                if (digits.isEmpty()) {
                    rows.add(new Taken(NONE, before, left, NONE));
                    return new Outcome(rows, k, false);
                }
                x = 16 * x + digits.removeLast();
            }
            heads[k & 1] = x;
            rows.add(new Taken(s, before, left, left - digits.size()));
        }
        return new Outcome(rows, NONE, digits.isEmpty() && heads[0] == 512 && heads[1] == 512);
    }

    private List<Integer> itemsOfTape(State state, Outcome outcome) {
        List<Integer> items = new ArrayList<>();
        for (int k = 0; k < state.plan.size(); k++) {
            int before = k == 0 ? 0 : state.plan.get(k - 1);
            if (state.plan.get(k) != before) {
                items.add(10 + state.plan.get(k));
            }
            items.add(outcome.symbol(k));
        }
        return items;
    }

    private State encoded(State state) {
        List<Put> puts = symbols(state);
        state(unfit(puts) == NONE);
        return encode(state, puts);
    }

    private State decoded(State state) {
        Outcome outcome = take(state);
        state(outcome.failedAt == NONE);
        List<Integer> items = itemsOfTape(state, outcome);
        state(items.size() <= 40);
        return state.withItems(items);
    }

    private State inserted(State state, int i, int item) {
        index(in(i, 0, state.items.size()));
        argument(isSymbol(item) || item >= 10 && isModel(item - 10));
        state(state.items.size() < 40);
        List<Integer> items = new ArrayList<>(state.items);
        items.add(i, item);
        return state.withItems(items);
    }

    private State removed(State state, int i) {
        index(in(i, 0, state.items.size() - 1));
        List<Integer> items = new ArrayList<>(state.items);
        items.remove(i);
        return state.withItems(items);
    }

    private State withDigit(State state, int k, int v) {
        index(in(k, 0, state.digits.size() - 1));
        argument(in(v, 0, 15));
        return state.withTape(state.plan, changed(state.digits, k, v), state.heads);
    }

    // ---- what there is

    long about(int what) {
        argument(in(what, 0, 6));
        return switch (what) {
            case 0 -> n;
            case 1 -> now.counts.size();
            case 2 -> now.items.size();
            case 3 -> symbols(now).size();
            case 4 -> now.digits.size();
            case 5 -> now.plan.size();
            default -> take(now).intact ? 1 : 0;
        };
    }

    long symbol(int m, int s, int what) {
        index(isModel(m) && isSymbol(s));
        argument(in(what, 0, 1));
        return what == 0 ? now.counts.get(m).get(s) : table(m).frequencies.get(s);
    }

    long bucket(int m, int b, int what) {
        index(isModel(m) && in(b, 0, 7));
        argument(in(what, 0, 1));
        return what == 0 ? table(m).rests[b] : table(m).aliases[b];
    }

    long slot(int m, int k, int what) {
        index(isModel(m) && in(k, 0, 31));
        argument(in(what, 0, 1));
        int s = table(m).symbolOfSlot[k];
        return what == 0 ? s : table(m).slotsOf(s).indexOf(k);
    }

    long item(int i) {
        index(in(i, 0, now.items.size() - 1));
        return now.items.get(i);
    }

    long tape(int what, int k) {
        argument(in(what, 0, 2));
        List<Integer> list = what == 0 ? now.digits : what == 1 ? now.plan : now.heads;
        index(in(k, 0, list.size() - 1));
        return list.get(k);
    }

    // ---- actions

    long setCount(int m, int s, int c) {
        index(isModel(m) && isSymbol(s));
        argument(in(c, 0, 99));
        int previous = now.counts.get(m).get(s);
        List<Integer> row = changed(now.counts.get(m), s, c);
        state(sum(row) > 0);
        act(now.withCounts(changed(now.counts, m, List.copyOf(row))));
        return previous;
    }

    long insert(int i, int item) {
        act(inserted(now, i, item));
        return now.items.size();
    }

    long remove(int i) {
        State next = removed(now, i);
        int previous = now.items.get(i);
        act(next);
        return previous;
    }

    long encode() {
        act(encoded(now));
        return now.digits.size();
    }

    long decode() {
        act(decoded(now));
        return now.items.size();
    }

    long setDigit(int k, int v) {
        State next = withDigit(now, k, v);
        int previous = now.digits.get(k);
        act(next);
        return previous;
    }

    long setHead(int h, int x) {
        index(in(h, 0, 1));
        argument(in(x, 512, 8191));
        int previous = now.heads.get(h);
        act(now.withTape(now.plan, now.digits, changed(now.heads, h, x)));
        return previous;
    }

    long setPlan(int k, int m) {
        index(in(k, 0, now.plan.size() - 1) && isModel(m));
        int previous = now.plan.get(k);
        act(now.withTape(changed(now.plan, k, m), now.digits, now.heads));
        return previous;
    }

    long undo() {
        state(!past.isEmpty());
        now = past.removeLast();
        return past.size();
    }

    // ---- taking and comparing

    long taken(int k, int what) {
        index(in(k, 0, now.plan.size() - 1));
        argument(in(what, 0, 3));
        List<Taken> rows = take(now).rows;
        if (k >= rows.size()) {
            return NONE;
        }
        Taken row = rows.get(k);
        return new int[] {row.symbol, row.state, row.left, row.removed}[what];
    }

    long failure() {
        return take(now).failedAt;
    }

    long unfit() {
        return unfit(symbols(now));
    }

    long digitsWith(int m) {
        index(isModel(m));
        List<Put> puts = symbols(now).stream().map(p -> new Put(p.symbol, m)).toList();
        return unfit(puts) != NONE ? NONE : encode(now, puts).digits.size();
    }

    private BigInteger multiply(int m, int k, int count) {
        BigInteger result = BigInteger.ONE;
        List<Put> puts = symbols(now);
        for (Put p : puts.subList(k, Math.min(puts.size(), k + count))) {
            result = result.multiply(BigInteger.valueOf(table(m).frequencies.get(p.symbol)));
        }
        return result;
    }

    long product(int m, int k, int count) {
        index(isModel(m) && in(k, 0, symbols(now).size() - 1));
        argument(in(count, 1, 12));
        return multiply(m, k, count).longValueExact();
    }

    long bestModel(int k, int count) {
        index(in(k, 0, symbols(now).size() - 1));
        argument(in(count, 1, 12));
        List<BigInteger> all = new ArrayList<>();
        for (int m = 0; m < now.counts.size(); m++) {
            all.add(multiply(m, k, count));
        }
        return all.indexOf(Collections.max(all));
    }

    long difference() {
        List<Put> puts = symbols(now);
        Outcome outcome = take(now);
        int there = outcome.failedAt == NONE ? now.plan.size() : outcome.failedAt;
        int both = Math.min(there, puts.size());
        for (int k = 0; k < both; k++) {
            if (outcome.symbol(k) != puts.get(k).symbol) {
                return k;
            }
        }
        return there == puts.size() ? NONE : both;
    }

    long effect(int k, int v, int what) {
        State other = withDigit(now, k, v);
        argument(in(what, 0, 1));
        Outcome a = take(now);
        Outcome b = take(other);
        if (what == 1) {
            return b.intact ? 1 : 0;
        }
        int found = 0;
        for (int i = 0; i < now.plan.size(); i++) {
            found += a.symbol(i) == b.symbol(i) ? 0 : 1;
        }
        return found;
    }

    // ---- scripts, simulations

    long runScript(int count, long script) {
        argument(in(count, 1, 4));
        argument(script >= 0 && Long.toString(script).length() <= 4 * count);
        String groups = "0".repeat(4 * count - Long.toString(script).length()) + script;
        State state = now;
        for (int i = 0; i < count; i++) {
            try {
                state = command(state, groups.substring(4 * i, 4 * i + 4));
            } catch (IndexOutOfBoundsException | IllegalArgumentException | IllegalStateException e) {
                return i;
            }
        }
        return NONE;
    }

    private State command(State state, String g) {
        int xy = Integer.parseInt(g.substring(2));
        int second = g.charAt(1) - '0';
        if (g.startsWith("10")) {
            return inserted(state, state.items.size(), xy);
        }
        if (g.startsWith("20")) {
            return removed(state, xy);
        }
        if (g.equals("3000")) {
            return encoded(state);
        }
        if (g.equals("4000")) {
            return decoded(state);
        }
        if (g.startsWith("5")) {
            return withDigit(state, xy, second);
        }
        boolean good = g.startsWith("60") && state.digits.size() == xy
                || g.equals("7001") && take(state).intact
                || g.equals("7000") && !take(state).intact
                || g.startsWith("8") && xy < state.plan.size() && take(state).symbol(xy) == second;
        state(good);
        return state;
    }

    long simulate(long seed, int m) {
        argument(in(m, 1, 40));
        BigInteger x = BigInteger.valueOf(seed);
        long result = 0;
        for (int i = 0; i < m; i++) {
            x = x.multiply(new BigInteger("6364136223846793005")).add(new BigInteger("1442695040888963407"))
                    .mod(BigInteger.TWO.pow(64));
            int r = x.shiftRight(33).intValueExact();
            State other = now.digits.isEmpty()
                    ? now.withTape(now.plan, now.digits, changed(now.heads, r % 2, 512 + (r / 2) % 7680))
                    : withDigit(now, (r / 16) % now.digits.size(), r % 16);
            Outcome outcome = take(other);
            result += outcome.intact ? 1 : outcome.failedAt != NONE ? 100 : 0;
        }
        return result;
    }

    // ---- save slots

    long save(int slot) {
        index(in(slot, 0, 1));
        saved[slot] = now;
        return now.items.size();
    }

    long restore(int slot) {
        index(in(slot, 0, 1));
        state(saved[slot] != null);
        now = saved[slot];
        past.clear();
        return now.items.size();
    }
}
