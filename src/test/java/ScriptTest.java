import java.math.BigInteger;

/** Promises 29 and 30: runScript, simulate. */
public final class ScriptTest {
    private static final String A8 = "A2m0101:aaaaaaaa";

    public static void main(String[] args) {
        runScript();
        everyCommand();
        otherGroups();
        runScriptRefuses();
        simulateHeads();
        simulateDigits();
        simulateRefuses();
        Check.finish();
    }

    private static void script(AliasStreams x, int n, long commands, int want) {
        String before = Check.state(x);
        Check.due("29: runScript(" + n + ", " + commands + ")", x.runScript(n, commands), want);
        Check.same("29: " + commands + " changes nothing", Check.state(x), before);
    }

    private static void runScript() {
        String text = "A2m0101m0001:" + "b".repeat(7);
        long[] good = {1001_3000_6002_8107L, 3000_2000_4000_2006L, 2000_2000_2000_2003L, 2000_3000_6000_7001L};
        for (long commands : good) {
            script(Check.loaded(text), 4, commands, -9);
        }
        script(Check.loaded(text), 4, 1001_3000_6001_8107L, 2);
        script(Check.loaded(text), 4, 1001_3000_6002_8007L, 3);
        script(Check.loaded(text), 4, 1001_3000_6002_8108L, 3);
        script(Check.loaded(text), 4, 2000_4000_2000_3000L, 2);
        script(Check.loaded(text), 4, 2000_2000_2000_2004L, 3);
        script(Check.loaded(text), 4, 2000_3000_1000_8106L, 3);
        script(Check.loaded(text), 3, 3000_5500_7000L, -9);
        script(Check.loaded(text), 3, 3000_5500_7001L, 2);
        script(Check.loaded(text), 3, 3000_5501_7000L, 1);
        script(Check.loaded(text), 3, 1011_1000_3000L, 2);
        script(Check.loaded(text), 2, 3000L, 0);
        script(Check.loaded(text), 4, 3000L, 0);
        AliasStreams x = Check.loaded(text);
        x.runScript(4, 1001_3000_6002_8107L);
        Check.refuses("29: which is no action", Check.STATE, x::undo);
    }

    private static void succeed(String text, int... groups) {
        for (int group : groups) {
            script(Check.encoded(text), 1, group, -9);
        }
    }

    private static void fail(String text, int... groups) {
        for (int group : groups) {
            script(Check.encoded(text), 1, group, 0);
        }
    }

    private static void everyCommand() {
        String text = "A3m010101m010101:aaaaaaaa";
        int digits = Check.encoded(text).about(4);
        succeed(text, 1002, 1010, 1011, 2007, 3000, 4000, 5000, 5900 + digits - 1, 6000 + digits, 7001, 8000, 8007);
        fail(text, 1003, 1009, 1012, 1099, 2008, 5900 + digits, 6001 + digits, 7000, 8100, 8008);
        fail("A2m0101:" + "a".repeat(40), 1000);
        script(Check.loaded("A2m0101:" + "a".repeat(39)), 2, 1000_1000, 1);
        script(Check.loaded("A2m0001:a"), 1, 3000, 0);
        succeed("A2m0101m0101:" + "a".repeat(40), 4000);
        AliasStreams full = Check.encoded("A2m0101m0101:" + "a".repeat(40));
        full.setPlan(39, 1);
        script(full, 1, 4000, 0);
        AliasStreams failing = Check.encoded("A2m0199:aa");
        failing.setHead(1, 512);
        script(failing, 1, 4000, 0);
        script(failing, 1, 7000, -9);
        script(failing, 1, 8000, -9);
        script(failing, 1, 8001, 0);
        script(failing, 1, 8901, 0);
    }

    private static void otherGroups() {
        int[] wrong = {0, 9000, 9999, 1100, 1900, 2100, 3001, 3010, 3100, 4001, 4010, 4100, 6102, 7002, 7010,
            7011, 7100, 7101, 7009, 8200, 8900, 1, 999, 400};
        fail(A8, wrong);
        for (int group : wrong) {
            AliasStreams changed = Check.encoded(A8);
            changed.setHead(0, 8191);
            script(changed, 1, group, 0);
        }
    }

    private static void runScriptRefuses() {
        AliasStreams x = Check.encoded(A8);
        Check.refuses("29: n 0", Check.ARGUMENT, () -> x.runScript(0, 0));
        Check.refuses("29: n 5", Check.ARGUMENT, () -> x.runScript(5, 0));
        Check.refuses("29: n -1", Check.ARGUMENT, () -> x.runScript(-1, 3000));
        Check.refuses("29: a negative script", Check.ARGUMENT, () -> x.runScript(1, -1));
        Check.refuses("29: the smallest script", Check.ARGUMENT, () -> x.runScript(4, Long.MIN_VALUE));
        Check.refuses("29: five digits for one", Check.ARGUMENT, () -> x.runScript(1, 10000));
        Check.refuses("29: nine digits for two", Check.ARGUMENT, () -> x.runScript(2, 100000000));
        Check.refuses("29: thirteen digits for three", Check.ARGUMENT, () -> x.runScript(3, 1000000000000L));
        Check.refuses("29: seventeen digits for four", Check.ARGUMENT, () -> x.runScript(4, 10000000000000000L));
        Check.refuses("29: the greatest script", Check.ARGUMENT, () -> x.runScript(4, Long.MAX_VALUE));
        Check.due("29: sixteen digits for four", x.runScript(4, 9999999999999999L), 0);
        Check.due("29: twelve digits for three", x.runScript(3, 999999999999L), 0);
        Check.due("29: eight digits for two", x.runScript(2, 99999999L), 0);
        Check.due("29: four digits for one", x.runScript(1, 9999), 0);
    }

    /** The seed whose first change has this r. */
    private static long seedFor(int r) {
        BigInteger modulus = BigInteger.TWO.pow(64);
        BigInteger x = BigInteger.valueOf(r).shiftLeft(33).add(BigInteger.valueOf(12345));
        return x.subtract(new BigInteger("1442695040888963407"))
                .multiply(new BigInteger("6364136223846793005").modInverse(modulus)).mod(modulus).longValue();
    }

    private static void one(AliasStreams x, int r, int want) {
        String before = Check.state(x);
        Check.due("30: one change with r = " + r, x.simulate(seedFor(r), 1), want);
        Check.same("30: it changes nothing", Check.state(x), before);
    }

    private static void simulateHeads() {
        AliasStreams x = new AliasStreams();
        one(x, 0, 1);
        one(x, 1, 1);
        one(x, 2, 0);
        one(x, 3, 0);
        one(x, 15359, 0);
        one(x, 15360, 1);
        one(x, 15361, 1);
        one(x, Integer.MAX_VALUE, 0);
        x.setHead(0, 600);
        one(x, 0, 1);
        one(x, 1, 0);
        x.setHead(0, 512);
        x.setHead(1, 8191);
        one(x, 0, 0);
        one(x, 1, 1);
        AliasStreams y = Check.loaded("A2m0101:a");
        y.encode();
        one(y, 2 * 512, 1);
        one(y, 2 * 513, 0);
        one(y, 2 * 512 + 1, 0);
    }

    private static void simulateDigits() {
        AliasStreams x = Check.encoded(A8);
        one(x, 0, 1);
        one(x, 16, 1);
        one(x, 32, 1);
        one(x, 5, 0);
        one(x, 16 + 5, 0);
        AliasStreams changed = Check.encoded(A8);
        changed.setDigit(1, 5);
        one(changed, 0, 0);
        one(changed, 16, 1);
        one(changed, 48, 1);
        AliasStreams failing = Check.encoded("A2m0199:a");
        failing.setHead(0, 512);
        for (int m = 1; m <= 40; m++) {
            Check.due("30: every copy fails", failing.simulate(m, m), 100 * m);
        }
        BigInteger modulus = BigInteger.TWO.pow(64);
        for (int seed = -20; seed < 20; seed++) {
            AliasStreams y = Check.encoded(A8);
            y.setDigit(1, 5);
            BigInteger state = BigInteger.valueOf(seed);
            int sum = 0;
            for (int m = 1; m <= 40; m++) {
                state = state.multiply(new BigInteger("6364136223846793005"))
                        .add(new BigInteger("1442695040888963407")).mod(modulus);
                int r = state.shiftRight(33).intValueExact();
                sum += y.effect(r / 16 % 2, r % 16, 1);
                Check.due("30: simulate(" + seed + ", " + m + ")", y.simulate(seed, m), sum);
            }
        }
        AliasStreams sure = Check.encoded("A2m0001:b");
        sure.setHead(0, 700);
        Check.due("30: neither intact nor failing", sure.simulate(seedFor(3), 1), 0);
    }

    private static void simulateRefuses() {
        AliasStreams x = Check.encoded(A8);
        Check.refuses("30: m 0", Check.ARGUMENT, () -> x.simulate(1, 0));
        Check.refuses("30: m 41", Check.ARGUMENT, () -> x.simulate(1, 41));
        Check.refuses("30: m -1", Check.ARGUMENT, () -> x.simulate(1, -1));
    }
}
