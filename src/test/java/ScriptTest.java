import java.math.BigInteger;

/** Promises 29 and 30 on ordinary inputs: runScript, simulate. */
public final class ScriptTest {
    private static final String A8 = "A2m0101:aaaaaaaa";

    public static void main(String[] args) {
        runScript();
        everyCommand();
        simulateDigits();
        Check.finish();
    }

    private static void script(AliasStreams x, int n, long commands, int want) {
        String before = Check.state(x);
        Check.due("29: runScript(" + n + ", " + commands + ")", x.runScript(n, commands), want);
        Check.same("29: " + commands + " changes nothing", Check.state(x), before);
    }

    private static void runScript() {
        String text = "A2m0101m0001:" + "b".repeat(7);
        long[] good = {1001_3000_6002_8107L, 3000_2000_4000_2006L, 2000_2000_2000_2003L, 2000_3000_6000_7001L};
        for (long commands : good) {
            script(Check.loaded(text), 4, commands, -9);
        }
        script(Check.loaded(text), 4, 1001_3000_6001_8107L, 2);
        script(Check.loaded(text), 4, 1001_3000_6002_8007L, 3);
        script(Check.loaded(text), 4, 1001_3000_6002_8108L, 3);
        script(Check.loaded(text), 4, 2000_4000_2000_3000L, 2);
        script(Check.loaded(text), 4, 2000_2000_2000_2004L, 3);
        script(Check.loaded(text), 4, 2000_3000_1000_8106L, 3);
        script(Check.loaded(text), 3, 3000_5500_7000L, -9);
        script(Check.loaded(text), 3, 3000_5500_7001L, 2);
        script(Check.loaded(text), 3, 3000_5501_7000L, 1);
        script(Check.loaded(text), 3, 1011_1000_3000L, 2);
        script(Check.loaded(text), 2, 3000L, 0);
        script(Check.loaded(text), 4, 3000L, 0);
    }

    private static void succeed(String text, int... groups) {
        for (int group : groups) {
            script(Check.encoded(text), 1, group, -9);
        }
    }

    private static void fail(String text, int... groups) {
        for (int group : groups) {
            script(Check.encoded(text), 1, group, 0);
        }
    }

    private static void everyCommand() {
        String text = "A3m010101m010101:aaaaaaaa";
        int digits = Check.encoded(text).about(4);
        succeed(text, 1002, 1010, 1011, 2007, 3000, 4000, 5000, 5900 + digits - 1, 6000 + digits, 7001, 8000, 8007);
        fail(text, 1003, 1009, 1012, 1099, 2008, 5900 + digits, 6001 + digits, 7000, 8100, 8008);
        fail("A2m0101:" + "a".repeat(40), 1000);
        script(Check.loaded("A2m0101:" + "a".repeat(39)), 2, 1000_1000, 1);
        script(Check.loaded("A2m0001:a"), 1, 3000, 0);
        succeed("A2m0101m0101:" + "a".repeat(40), 4000);
        AliasStreams full = Check.encoded("A2m0101m0101:" + "a".repeat(40));
        full.setPlan(39, 1);
        script(full, 1, 4000, 0);
        AliasStreams failing = Check.encoded("A2m0199:aa");
        failing.setHead(1, 512);
        script(failing, 1, 4000, 0);
        script(failing, 1, 7000, -9);
        script(failing, 1, 8000, -9);
        script(failing, 1, 8001, 0);
        script(failing, 1, 8901, 0);
    }

    /** Each change is one that effect() tells of, so that the sums must agree. */
    private static void simulateDigits() {
        BigInteger modulus = BigInteger.TWO.pow(64);
        for (int seed = -20; seed < 20; seed++) {
            AliasStreams y = Check.encoded(A8);
            y.setDigit(1, 5);
            BigInteger state = BigInteger.valueOf(seed);
            int sum = 0;
            for (int m = 1; m <= 40; m++) {
                state = state.multiply(new BigInteger("6364136223846793005"))
                        .add(new BigInteger("1442695040888963407")).mod(modulus);
                int r = state.shiftRight(33).intValueExact();
                sum += y.effect(r / 16 % 2, r % 16, 1);
                Check.due("30: simulate(" + seed + ", " + m + ")", y.simulate(seed, m), sum);
            }
        }
    }
}
