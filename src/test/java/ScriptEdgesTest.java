import java.math.BigInteger;

/** The boundary cases of promises 29 and 30, a test for each sentence. */
public final class ScriptEdgesTest {
    private static final int NONE = AliasStreams.NONE;
    private static final String A8 = "A2m0101:aaaaaaaa";
    private static final String MOST = "A2m0199m0101:" + "a".repeat(40);
    private static final BigInteger FACTOR = new BigInteger("6364136223846793005");
    private static final BigInteger SUMMAND = new BigInteger("1442695040888963407");
    private static final BigInteger LONGS = BigInteger.TWO.pow(64);

    public static void main(String[] args) {
        numberOfCommands();
        negativeScript();
        lengthOfScript();
        zerosBefore();
        firstCommandIsTheHighestGroup();
        firstThatFails();
        runsOnACopy();
        commandsSeeEachOther();
        commandInsert();
        commandInsertIntoFull();
        commandRemove();
        commandEncode();
        commandDecode();
        commandSetDigit();
        commandDigits();
        commandIntact();
        commandTaken();
        commandTakenWhereItFails();
        otherFirstDigits();
        otherDigitsForZero();
        numberOfChanges();
        anySeed();
        eachOnACopy();
        changesDigit();
        changesHead();
        changesHeadWithoutDigitsOnly();
        sumOfIntactAndFailing();
        simulateChangesNothing();
        Check.finish();
    }

    /** Promise 29, "n: number of commands, 1 to 4", "Throws IllegalArgumentException if n is out of range". */
    private static void numberOfCommands() {
        Check.range("29: n", Check.ARGUMENT, 1, 4, n -> new AliasStreams().runScript(n, 0));
        Check.refusesAll("29: n and script", Check.ARGUMENT, 1, 4, n -> new AliasStreams().runScript(n, -1));
    }

    /** Promise 29, "or if script is negative". */
    private static void negativeScript() {
        long[] negative = {-1, -3000, -9999, Long.MIN_VALUE, Long.MIN_VALUE + 3000, Integer.MIN_VALUE};
        for (long script : negative) {
            for (int n = 1; n <= 4; n++) {
                int number = n;
                Check.refuses("29: " + script, Check.ARGUMENT, () -> new AliasStreams().runScript(number, script));
            }
        }
        Check.due("29: 0 is not negative", new AliasStreams().runScript(1, 0), 0);
    }

    /** Promise 29, "a number of at most 4 * n digits (0 or more)", "or has more than 4 * n digits". */
    private static void lengthOfScript() {
        long limit = 1;
        for (int n = 1; n <= 4; n++) {
            limit *= 10_000;
            long least = limit;
            int number = n;
            Check.due("29: " + 4 * n + " digits", new AliasStreams().runScript(n, least - 1), 0);
            Check.refuses("29: one digit more", Check.ARGUMENT, () -> new AliasStreams().runScript(number, least));
            Check.refuses("29: far more", Check.ARGUMENT, () -> new AliasStreams().runScript(number, Long.MAX_VALUE));
            long digits17 = 30003000300030003L;
            Check.refuses("29: 17 digits", Check.ARGUMENT, () -> new AliasStreams().runScript(number, digits17));
        }
        Check.due("29: 16 digits", new AliasStreams().runScript(4, 3000_3000_3000_3000L), NONE);
    }

    /** Promise 29, "(with zeros before it, if it has fewer digits)". */
    private static void zerosBefore() {
        for (int n = 1; n <= 4; n++) {
            Check.due("29: the script 0", new AliasStreams().runScript(n, 0), 0);
            Check.due("29: the script 3000", new AliasStreams().runScript(n, 3000), n == 1 ? NONE : 0);
            Check.due("29: the script 300", new AliasStreams().runScript(n, 300), 0);
        }
        Check.due("29: 0300 0300", new AliasStreams().runScript(2, 300_0300), 0);
    }

    /** Promise 29, "the first command is the highest group of the number". */
    private static void firstCommandIsTheHighestGroup() {
        Check.due("29: insert, then remove", new AliasStreams().runScript(2, 1000_2000), NONE);
        Check.due("29: remove, then insert", new AliasStreams().runScript(2, 2000_1000), 0);
        Check.due("29: four in their order", new AliasStreams().runScript(4, 1001_3000_8100_2000L), NONE);
    }

    /** Promise 29, "Returns the index, from 0, of the first command that fails; NONE if all succeed." */
    private static void firstThatFails() {
        Check.due("29: the first", new AliasStreams().runScript(4, 9000_3000_3000_3000L), 0);
        Check.due("29: the second", new AliasStreams().runScript(4, 3000_9000_3000_3000L), 1);
        Check.due("29: the third", new AliasStreams().runScript(4, 3000_3000_9000_3000L), 2);
        Check.due("29: the fourth", new AliasStreams().runScript(4, 3000_3000_3000_9000L), 3);
        Check.due("29: two of them", new AliasStreams().runScript(4, 3000_9000_3000_9000L), 1);
        Check.due("29: none", new AliasStreams().runScript(4, 3000_3000_3000_3000L), NONE);
        for (int n = 1; n <= 3; n++) {
            long script = n == 1 ? 9000 : n == 2 ? 3000_9000 : 3000_3000_9000L;
            Check.due("29: the last of " + n, new AliasStreams().runScript(n, script), n - 1);
        }
    }

    /** Promise 29, "Runs a script on a copy of the state." */
    private static void runsOnACopy() {
        long[] scripts = {1001_2000_3000_4000L, 5900_4000_1001_3000L, 1001_3000_9000_0000L};
        for (long script : scripts) {
            AliasStreams x = Check.encoded(A8);
            String before = Check.state(x);
            x.runScript(4, script);
            Check.same("29: after " + script, Check.state(x), before);
            Check.due("29: no action", x.undo(), 0);
        }
        AliasStreams again = Check.loaded(A8);
        Check.due("29: the copy is made anew each time", again.runScript(2, 2007_2006), NONE);
        Check.due("29: the copy is made anew each time", again.runScript(2, 2007_2006), NONE);
    }

    /** Promise 29, "Runs a script on a copy of the state.": a command finds what those before it did. */
    private static void commandsSeeEachOther() {
        Check.due("29: insert, encode, take", Check.loaded("A3m010101:a").runScript(4, 1002_3000_8000_8201L), NONE);
        Check.due("29: remove, encode, decode", Check.loaded(A8).runScript(4, 2007_3000_4000_2006L), NONE);
        Check.due("29: and its item is gone", Check.loaded(A8).runScript(4, 2007_3000_4000_2007L), 3);
        Check.due("29: change a digit, take", Check.encoded(A8).runScript(3, 5500_8103_7000L), NONE);
        Check.due("29: an empty tape, decode", Check.loaded(A8).runScript(2, 4000_2000), 1);
    }

    private static void one(String text, int group, boolean succeeds) {
        Check.due("29: " + group + " with " + text, Check.encoded(text).runScript(1, group), succeeds ? NONE : 0);
    }

    /**
     * Promise 29, "1 0 x y: inserts the item xy at the end of the message.": any symbol, any change, nothing else.
     */
    private static void commandInsert() {
        for (int xy = 0; xy < 100; xy++) {
            one("A2m0101", 1000 + xy, xy < 2 || xy == 10);
            one("A8" + "m0101010101010101".repeat(3), 1000 + xy, xy < 8 || xy >= 10 && xy < 13);
        }
        Check.due("29: at the end", Check.loaded("A2m0101:a").runScript(3, 1001_3000_8101L), NONE);
        Check.due("29: at the end", Check.loaded("A2m0101m0100:a").runScript(3, 1011_1001_3000L), 2);
    }

    /**
     * Promise 29, "The commands 1 to 5 fail if the method with this effect would throw an exception": a full
     * message.
     */
    private static void commandInsertIntoFull() {
        Check.due("29: forty items", Check.loaded(MOST).runScript(1, 1000), 0);
        Check.due("29: a change", Check.loaded(MOST).runScript(1, 1010), 0);
        Check.due("29: one removed before", Check.loaded(MOST).runScript(3, 2039_1000_1000L), 2);
        Check.due("29: thirty-eight", Check.loaded("A2m0101:" + "a".repeat(38)).runScript(3, 1000_1000_1000L), 2);
    }

    /** Promise 29, "2 0 i i: removes item ii." */
    private static void commandRemove() {
        for (int ii = 0; ii < 100; ii++) {
            one("A2m0101", 2000 + ii, false);
            one("A2m0101:a0b", 2000 + ii, ii < 3);
            one(MOST, 2000 + ii, ii < 40);
        }
        Check.due("29: the right one", Check.loaded("A2m0101:ab").runScript(3, 2000_3000_8100L), NONE);
    }

    /** Promise 29, "3 0 0 0: encodes the message.": fails with a symbol of frequency 0. */
    private static void commandEncode() {
        Check.due("29: unfit", Check.loaded("A2m0001:ba").runScript(1, 3000), 0);
        Check.due("29: fit without it", Check.loaded("A2m0001:ba").runScript(2, 2001_3000), NONE);
        Check.due("29: fit before it", Check.loaded("A2m0001:b").runScript(3, 3000_1000_3000L), 2);
        Check.due("29: fifty digits", Check.loaded(MOST).runScript(3, 3000_6050_7001L), NONE);
        Check.due("29: no symbol", Check.loaded("A2m0001:0").runScript(2, 3000_6000), NONE);
    }

    /**
     * Promise 29, "4 0 0 0: replaces the message by the symbols of the tape.": fails with a tape that fails, or
     * too many items.
     */
    private static void commandDecode() {
        AliasStreams failing = Check.encoded("A2m0199:b");
        failing.setHead(0, 512);
        Check.due("29: the tape fails", failing.runScript(1, 4000), 0);
        AliasStreams full = Check.encoded(MOST);
        Check.due("29: forty items", full.runScript(2, 4000_2039), NONE);
        AliasStreams changes = Check.encoded("A2m0101m0101:" + "a".repeat(40));
        changes.setPlan(39, 1);
        Check.due("29: forty-one items", changes.runScript(1, 4000), 0);
        AliasStreams fewer = Check.encoded("A2m0101m0101:1" + "a".repeat(39));
        Check.due("29: forty items with a change", fewer.runScript(2, 4000_2039), NONE);
        Check.due("29: an empty tape", Check.loaded(A8).runScript(2, 4000_2000), 1);
    }

    /** Promise 29, "5 x k k: digit kk of the tape becomes x (0 to 9)." */
    private static void commandSetDigit() {
        for (int kk = 0; kk < 100; kk++) {
            one("A2m0101:a", 5000 + kk, false);
            one("A2m0199:a", 5900 + kk, kk == 0);
            one(MOST, 5300 + kk, kk < 50);
        }
        for (int x = 0; x < 10; x++) {
            one(MOST, 5000 + 100 * x + 49, true);
            AliasStreams same = Check.encoded(A8);
            same.setDigit(0, x);
            int third = same.taken(3, 0);
            long script = (5000 + 100 * x) * 10_000L + 8003 + 100 * third;
            Check.due("29: it becomes " + x, Check.encoded(A8).runScript(2, script), NONE);
        }
    }

    /** Promise 29, "6 0 x y: succeeds if the tape has xy digits." */
    private static void commandDigits() {
        for (int xy = 0; xy < 100; xy++) {
            one("A2m0101:a", 6000 + xy, xy == 0);
            one(A8, 6000 + xy, xy == 2);
            one(MOST, 6000 + xy, xy == 50);
        }
    }

    /** Promise 29, "7 0 0 x: succeeds if the tape is intact (x = 1), or if it is not (x = 0)." */
    private static void commandIntact() {
        one(A8, 7001, true);
        one(A8, 7000, false);
        AliasStreams head = new AliasStreams();
        Check.due("29: an empty tape", head.runScript(1, 7001), NONE);
        head.setHead(1, 513);
        Check.due("29: another head", head.runScript(1, 7000), NONE);
        Check.due("29: another head", head.runScript(1, 7001), 0);
        AliasStreams failing = Check.encoded("A2m0199:b");
        failing.setHead(0, 512);
        Check.due("29: it fails", failing.runScript(1, 7000), NONE);
        Check.due("29: it fails", failing.runScript(1, 7001), 0);
    }

    /** Promise 29, "8 s k k: succeeds if", "this symbol is s", "8 if there is no such symbol of the plan." */
    private static void commandTaken() {
        for (int kk = 0; kk < 100; kk++) {
            one("A2m0101", 8000 + kk, false);
            one("A2m0101:" + "ba".repeat(20), 8000 + kk, kk < 40 && kk % 2 == 1);
            one("A2m0101:" + "ba".repeat(20), 8100 + kk, kk < 40 && kk % 2 == 0);
        }
        for (int s = 0; s < 10; s++) {
            one("A8m0101010101010101:abcdefgh", 8007 + 100 * s, s == 7);
            one("A8m0101010101010101:abcdefgh", 8008 + 100 * s, false);
        }
    }

    /** Promise 29, "if the tape does not fail at symbol kk of the plan or before". */
    private static void commandTakenWhereItFails() {
        AliasStreams x = Check.encoded("A2m0199:bbb");
        x.setHead(1, 512);
        Check.due("29: before the failure", x.runScript(1, 8100), NONE);
        for (int s = 0; s < 10; s++) {
            Check.due("29: at the failure", x.runScript(1, 8001 + 100 * s), 0);
            Check.due("29: after the failure", x.runScript(1, 8002 + 100 * s), 0);
        }
    }

    /** Promise 29, "Any other group fails". */
    private static void otherFirstDigits() {
        for (int group = 0; group < 1000; group++) {
            Check.due("29: " + group, new AliasStreams().runScript(1, group), 0);
            Check.due("29: " + (9000 + group), new AliasStreams().runScript(1, 9000 + group), 0);
        }
    }

    /** Promise 29, "(also one with another digit where a 0, or in 7 a 0 or 1, is written)". */
    private static void otherDigitsForZero() {
        for (int d = 1; d < 10; d++) {
            int[] wrong = {1000 + 100 * d, 2000 + 100 * d, 3000 + 100 * d, 3000 + 10 * d, 3000 + d, 4000 + 100 * d,
                4000 + 10 * d, 4000 + d, 6002 + 100 * d, 7000 + 100 * d, 7001 + 100 * d, 7000 + 10 * d, 7001 + 10 * d};
            AliasStreams intact = Check.encoded(A8);
            AliasStreams not = Check.encoded(A8);
            not.setHead(1, 8191);
            for (int group : wrong) {
                Check.due("29: " + group, intact.runScript(1, group), 0);
                Check.due("29: " + group, not.runScript(1, group), 0);
            }
            if (d > 1) {
                Check.due("29: 7 with " + d, intact.runScript(1, 7000 + d), 0);
                Check.due("29: 7 with " + d, not.runScript(1, 7000 + d), 0);
            }
        }
    }

    /** Promise 30, "m: number of changes, 1 to 40", "Throws IllegalArgumentException if m is out of range". */
    private static void numberOfChanges() {
        Check.range("30: m", Check.ARGUMENT, 1, 40, m -> new AliasStreams().simulate(1, m));
        Check.range("30: m", Check.ARGUMENT, 1, 40, m -> Check.encoded(MOST).simulate(Long.MIN_VALUE, m));
    }

    /** The sum as the document tells it, from what effect() and a tape with another head answer. */
    private static int expected(String text, long seed, int m) {
        BigInteger x = BigInteger.valueOf(seed).mod(LONGS);
        int sum = 0;
        for (int change = 0; change < m; change++) {
            x = x.multiply(FACTOR).add(SUMMAND).mod(LONGS);
            int r = x.shiftRight(33).intValueExact();
            AliasStreams copy = Check.encoded(text);
            int digits = copy.about(4);
            if (digits > 0) {
                copy.setDigit(r / 16 % digits, r % 16);
            } else {
                copy.setHead(r % 2, 512 + r / 2 % 7680);
            }
            sum += copy.failure() != NONE ? 100 : copy.about(6);
        }
        return sum;
    }

    /** Promise 30, "seed: any long", "(with long overflow)", "r = (int) (x >>> 33) is computed". */
    private static void anySeed() {
        long[] seeds = {0, 1, -1, Long.MAX_VALUE, Long.MIN_VALUE, 1L << 33, -(1L << 33), 20261118};
        String[] texts = {"A2m0101", "A2m0101:a", "A2m0199:ab", A8, "A2m0199:" + "a".repeat(12), "A2m0001:bb"};
        for (String text : texts) {
            for (long seed : seeds) {
                AliasStreams x = Check.encoded(text);
                Check.due("30: one change of " + text, x.simulate(seed, 1), expected(text, seed, 1));
                Check.due("30: forty changes of " + text, x.simulate(seed, 40), expected(text, seed, 40));
            }
        }
    }

    /** The seed whose first change has this r. */
    private static long seedFor(int r) {
        BigInteger x = BigInteger.valueOf(r).shiftLeft(33).add(BigInteger.valueOf(4321));
        return x.subtract(SUMMAND).multiply(FACTOR.modInverse(LONGS)).mod(LONGS).longValue();
    }

    private static int first(AliasStreams x, int r) {
        return x.simulate(seedFor(r), 1);
    }

    /** Promise 30, "each on a copy of the tape as it is now": no change finds what another one did. */
    private static void eachOnACopy() {
        AliasStreams x = Check.encoded("A2m0199:ab");
        x.setHead(0, 992);
        for (int m = 1; m <= 40; m++) {
            Check.due("30: each of " + m + " fails", x.simulate(7, m), 100 * m);
        }
        AliasStreams changed = Check.encoded(A8);
        changed.setDigit(1, 5);
        Check.due("30: the tape as it is now", first(changed, 0), 0);
        Check.due("30: the tape as it is now", first(changed, 16), 1);
    }

    /** Promise 30, "If the tape has digits, digit r / 16 % (number of digits) becomes r % 16". */
    private static void changesDigit() {
        for (int r = 0; r < 600; r++) {
            AliasStreams x = Check.encoded(A8);
            Check.due("30: r = " + r, first(x, r), x.effect(r / 16 % 2, r % 16, 1));
            x.setDigit(0, 5);
            Check.due("30: digit 0 is 5, r = " + r, first(x, r), x.effect(r / 16 % 2, r % 16, 1));
            x.setDigit(0, 0);
            x.setDigit(1, 5);
            Check.due("30: digit 1 is 5, r = " + r, first(x, r), x.effect(r / 16 % 2, r % 16, 1));
        }
        AliasStreams y = Check.encoded(A8);
        y.setDigit(0, 5);
        int top = Integer.MAX_VALUE - 15;
        Check.due("30: the greatest r with digit 0", first(y, top - 16), y.effect(0, 0, 1));
        Check.due("30: the greatest r with digit 1", first(y, top), y.effect(1, 0, 1));
        Check.due("30: the greatest r", first(y, Integer.MAX_VALUE), y.effect(1, 15, 1));
    }

    /** Promise 30, "otherwise head r % 2 becomes 512 + r / 2 % 7680." */
    private static void changesHead() {
        AliasStreams x = new AliasStreams();
        int[] intact = {0, 1, 15360, 15361, 30720, 30721};
        int[] not = {2, 3, 15358, 15359, 15362, 15363, Integer.MAX_VALUE, Integer.MAX_VALUE - 1};
        for (int r : intact) {
            Check.due("30: to 512, r = " + r, first(x, r), 1);
        }
        for (int r : not) {
            Check.due("30: to another state, r = " + r, first(x, r), 0);
        }
        x.setHead(0, 8191);
        Check.due("30: head 0 becomes 512", first(x, 0), 1);
        Check.due("30: head 1 becomes 512, head 0 stays", first(x, 1), 0);
        AliasStreams one = Check.encoded("A2m0101:a");
        one.setHead(0, 1019);
        Check.due("30: head 0 becomes 1024", first(one, 1024), 1);
        Check.due("30: head 1 becomes 512, and symbol 0 fails", first(one, 1), 100);
        Check.due("30: head 0 becomes 8191", first(one, 15358), 0);
    }

    /** Promise 30, "If the tape has digits", "otherwise": one digit is enough, and a plan is none. */
    private static void changesHeadWithoutDigitsOnly() {
        AliasStreams one = Check.encoded("A2m0199:a");
        Check.due("30: its digit becomes 0", first(one, 1024), 1);
        Check.due("30: its digit becomes 1", first(one, 1025), 0);
        Check.due("30: a plan without digits", first(Check.encoded("A2m0101:a"), 1024), 1);
    }

    /** Promise 30, "Returns the sum of: 1 for each of these copies that is intact, 100 for each that fails." */
    private static void sumOfIntactAndFailing() {
        AliasStreams failing = Check.encoded("A2m0199:b");
        failing.setHead(0, 512);
        Check.due("30: it fails", first(failing, 1), 100);
        Check.due("30: it is intact", first(new AliasStreams(), 0), 1);
        Check.due("30: neither", first(new AliasStreams(), 2), 0);
        AliasStreams always = Check.encoded("A2m0199m0001:aa");
        always.setHead(0, 992);
        always.setPlan(1, 1);
        Check.due("30: forty that do not fail", always.simulate(5, 40), 0);
    }

    /** Promise 30, "Simulates m changes of the tape": none of them is made. */
    private static void simulateChangesNothing() {
        String[] texts = {A8, "A2m0101:a", MOST};
        for (String text : texts) {
            AliasStreams x = Check.encoded(text);
            String before = Check.state(x);
            x.simulate(99, 40);
            Check.same("30: the state", Check.state(x), before);
            Check.due("30: no action", x.undo(), 0);
        }
    }
}
