import java.util.Random;

/** Runs of calls drawn from fixed seeds, answered by the class and by the second reading of the document. */
public final class RandomRunsTest {
    private static final int RUNS = 400;
    private static final int CALLS = 500;
    private static final int[] ODD = {-1, -9, Integer.MIN_VALUE, Integer.MAX_VALUE, 8, 10, 13, 40, 41, 100};

    private final Random random;
    private final AliasStreams x = new AliasStreams();
    private final Reference y = new Reference();
    private final StringBuilder told = new StringBuilder();
    private int calls;
    private boolean differs;

    private RandomRunsTest(long seed) {
        random = new Random(seed);
    }

    public static void main(String[] args) {
        for (int seed = 1; seed <= RUNS; seed++) {
            RandomRunsTest run = new RandomRunsTest(seed);
            run.play();
            if (run.differs) {
                Check.same("run " + seed + ":" + run.told, "the last row otherwise", "alike");
                break;
            }
        }
        Check.finish();
    }

    private void play() {
        if (random.nextInt(10) != 0) {
            loadText();
        }
        while (calls < CALLS && !differs) {
            step();
        }
    }

    private void both(String call, Check.Call a, Check.Call b) {
        if (differs || calls >= CALLS) {
            return;
        }
        calls++;
        String got = Check.outcome(a);
        String want = Check.outcome(b);
        told.append("\n  ").append(call).append(" -> ").append(got);
        if (!got.equals(want)) {
            told.append(", due is ").append(want);
            differs = true;
        }
    }

    /** A number from 0 to below the bound, now and then one beside it. */
    private int near(int bound) {
        if (random.nextInt(25) == 0) {
            return random.nextBoolean() ? ODD[random.nextInt(ODD.length)] : bound;
        }
        return bound <= 0 ? 0 : random.nextInt(bound);
    }

    /** The second reading is asked for bounds, so that the class answers no more calls than are promised. */
    private int has(int what) {
        return (int) y.about(what);
    }

    private int pick(int bound) {
        return random.nextInt(bound);
    }

    private void loadText() {
        String text = someText();
        both("clearText()", x::clearText, y::clearText);
        for (char c : text.toCharArray()) {
            both("append(" + (int) c + ")", () -> x.append(c), () -> y.append(c));
        }
        both("errorPosition()", x::errorPosition, y::errorPosition);
        both("load()", x::load, y::load);
    }

    private String someText() {
        int n = 2 + pick(7);
        int models = 1 + pick(3);
        StringBuilder s = new StringBuilder("A").append(n);
        for (int m = 0; m < models; m++) {
            s.append('m');
            int kind = pick(4);
            for (int i = 0; i < n; i++) {
                int count = kind == 0 ? 1 + pick(3) : kind == 1 ? pick(100) : kind == 2 ? pick(2) * pick(100)
                        : i == 0 ? 99 : pick(2);
                s.append(count / 10).append(count % 10);
            }
        }
        int items = pick(4) == 0 ? 0 : Math.min(96 - s.length(), 1 + pick(43));
        for (int i = 0; i < items; i++) {
            boolean change = pick(8) == 0;
            s.append(i == 0 ? ":" : "").append((char) (change ? '0' + pick(models) : 'a' + pick(n)));
        }
        if (pick(5) == 0) {
            s.setCharAt(pick(s.length()), "A29m0:ahi3/\u00ff\n".charAt(pick(13)));
        }
        if (pick(8) == 0) {
            s.setLength(pick(s.length() + 1));
        }
        return s.toString();
    }

    private void step() {
        int kind = pick(100);
        if (kind < 40) {
            action(pick(12));
        } else if (kind < 60) {
            view(pick(6));
        } else if (kind < 90) {
            question(pick(9));
        } else if (kind < 98) {
            slots(pick(4));
        } else {
            textCall();
        }
    }

    private void textCall() {
        int c = near(256);
        switch (pick(3)) {
            case 0 -> loadText();
            case 1 -> both("errorPosition()", x::errorPosition, y::errorPosition);
            default -> both("append(" + c + ")", () -> x.append(c), () -> y.append(c));
        }
    }

    private void action(int which) {
        int items = has(2);
        int m = near(has(1));
        int s = near(has(0));
        int c = pick(3) == 0 ? 0 : near(100);
        int i = near(items + 1);
        int item = pick(4) == 0 ? 10 + m : s;
        int k = near(has(4));
        int v = near(16);
        int p = near(has(5));
        int state = pick(15) == 0 ? 510 + pick(4) : pick(15) == 0 ? 8190 + pick(4) : 512 + pick(7680);
        int h = near(2);
        switch (which) {
            case 0, 1 -> both("setCount(" + m + ", " + s + ", " + c + ")",
                () -> x.setCount(m, s, c), () -> y.setCount(m, s, c));
            case 2, 3 -> both("insert(" + i + ", " + item + ")", () -> x.insert(i, item), () -> y.insert(i, item));
            case 4 -> both("remove(" + i + ")", () -> x.remove(i), () -> y.remove(i));
            case 5, 6 -> both("encode()", x::encode, y::encode);
            case 7 -> both("decode()", x::decode, y::decode);
            case 8 -> both("setDigit(" + k + ", " + v + ")", () -> x.setDigit(k, v), () -> y.setDigit(k, v));
            case 9 -> both("setHead(" + h + ", " + state + ")", () -> x.setHead(h, state), () -> y.setHead(h, state));
            case 10 -> both("setPlan(" + p + ", " + m + ")", () -> x.setPlan(p, m), () -> y.setPlan(p, m));
            default -> {
                for (int times = pick(6) == 0 ? 16 : 1 + pick(2); times > 0; times--) {
                    both("undo()", x::undo, y::undo);
                }
            }
        }
    }

    private void view(int which) {
        int m = near(has(1));
        int s = near(has(0));
        int b = near(8);
        int slot = near(32);
        int two = near(2);
        int seven = near(7);
        int i = near(has(2));
        int three = near(3);
        int t = near(three == 0 ? has(4) : three == 1 ? has(5) : 2);
        switch (which) {
            case 0 -> both("about(" + seven + ")", () -> x.about(seven), () -> y.about(seven));
            case 1 -> both("symbol(" + m + ", " + s + ", " + two + ")",
                () -> x.symbol(m, s, two), () -> y.symbol(m, s, two));
            case 2 -> both("bucket(" + m + ", " + b + ", " + two + ")",
                () -> x.bucket(m, b, two), () -> y.bucket(m, b, two));
            case 3 -> both("slot(" + m + ", " + slot + ", " + two + ")",
                () -> x.slot(m, slot, two), () -> y.slot(m, slot, two));
            case 4 -> both("item(" + i + ")", () -> x.item(i), () -> y.item(i));
            default -> both("tape(" + three + ", " + t + ")", () -> x.tape(three, t), () -> y.tape(three, t));
        }
    }

    private void question(int which) {
        int p = near(has(5));
        int four = near(4);
        int m = near(has(1));
        int q = near(has(3));
        int n = pick(10) == 0 ? near(14) : 1 + pick(12);
        int k = near(has(4));
        int v = near(16);
        int two = near(2);
        switch (which) {
            case 0 -> both("taken(" + p + ", " + four + ")", () -> x.taken(p, four), () -> y.taken(p, four));
            case 1 -> both("failure()", x::failure, y::failure);
            case 2 -> both("unfit()", x::unfit, y::unfit);
            case 3 -> both("digitsWith(" + m + ")", () -> x.digitsWith(m), () -> y.digitsWith(m));
            case 4 -> both("product(" + m + ", " + q + ", " + n + ")",
                () -> x.product(m, q, n), () -> y.product(m, q, n));
            case 5 -> both("bestModel(" + q + ", " + n + ")", () -> x.bestModel(q, n), () -> y.bestModel(q, n));
            case 6 -> both("difference()", x::difference, y::difference);
            case 7 -> both("effect(" + k + ", " + v + ", " + two + ")",
                () -> x.effect(k, v, two), () -> y.effect(k, v, two));
            default -> scripts();
        }
    }

    private void scripts() {
        if (pick(3) == 0) {
            long seed = random.nextLong();
            int m = pick(8) == 0 ? near(42) : 1 + pick(40);
            both("simulate(" + seed + ", " + m + ")", () -> x.simulate(seed, m), () -> y.simulate(seed, m));
            return;
        }
        int n = pick(20) == 0 ? near(6) : 1 + pick(4);
        long script = 0;
        for (int i = 0; i < Math.min(4, n); i++) {
            script = 10000 * script + command();
        }
        long whole = pick(30) == 0 ? random.nextLong() : script;
        both("runScript(" + n + ", " + whole + ")", () -> x.runScript(n, whole), () -> y.runScript(n, whole));
    }

    private int command() {
        int xy = pick(3) == 0 ? 10 + pick(4) : pick(9);
        return switch (pick(10)) {
            case 0 -> 1000 + xy;
            case 1 -> 2000 + pick(has(2) + 1);
            case 2, 3 -> 3000;
            case 4 -> 4000;
            case 5 -> 5000 + 100 * pick(10) + pick(has(4) + 1);
            case 6 -> 6000 + Math.max(0, has(4) + pick(3) - 1);
            case 7 -> 7000 + pick(2);
            case 8 -> has(5) == 0 ? 8000 : taken(pick(has(5)));
            default -> pick(10000);
        };
    }

    private int taken(int k) {
        int s = (int) y.taken(k, 0);
        return 8000 + 100 * (s < 0 || pick(5) == 0 ? pick(10) : s) + k;
    }

    private void slots(int which) {
        int slot = near(2);
        if (which < 2) {
            both("save(" + slot + ")", () -> x.save(slot), () -> y.save(slot));
        } else if (which == 2) {
            both("restore(" + slot + ")", () -> x.restore(slot), () -> y.restore(slot));
        } else {
            both("about(6)", () -> x.about(6), () -> y.about(6));
        }
    }
}
