/** The boundary cases of promises 6 to 9 and 12, of SYMBOLS AND MODELS and of SLOTS, a test for each sentence. */
public final class ModelEdgesTest {
    private static final int NONE = AliasStreams.NONE;
    private static final String MOST = "A8m9900000000000001m0000000000000099m0101010101010101";

    public static void main(String[] args) {
        numberOfSymbols();
        numberOfModels();
        countsOfText();
        sumIsThirtyTwo();
        countZero();
        roundedDownOrOne();
        greatestRemainderFirst();
        remainderOfThoseThatBeginWithOne();
        smallestSymbolFirst();
        greatestFrequencyLess();
        greatestSymbolLess();
        slotsOfBuckets();
        bucketsWithoutSymbol();
        restAtMostFour();
        firstSlots();
        aliasWithGreatestRest();
        aliasWithSmallestNumber();
        asManySlotsAsFrequency();
        indexOfSlots();
        aboutRange();
        aboutNumbers();
        symbolRefuses();
        bucketRefuses();
        bucketWithoutAlias();
        slotRefuses();
        setCountRange();
        setCountAnswers();
        setCountMakesAnew();
        setCountLikeLoaded();
        setCountAllZero();
        setCountRefuses();
        Check.finish();
    }

    /** Promises 6 and 7, Terms "There are n symbols, 2 to 8, numbered from 0 (also called a to h)." */
    private static void numberOfSymbols() {
        for (int n = 2; n <= 8; n++) {
            String text = "A" + n + "m" + "01".repeat(n);
            Check.due("6: n", Check.loaded(text).about(0), n);
            Check.range("7: symbol of " + n, Check.INDEX, 0, n - 1, s -> Check.loaded(text).symbol(0, s, 0));
        }
    }

    /** Promises 6 and 7, Terms "There are 1 to 3 models, numbered from 0." */
    private static void numberOfModels() {
        for (int models = 1; models <= 3; models++) {
            String text = "A2" + "m0101".repeat(models);
            Check.due("6: models", Check.loaded(text).about(1), models);
            Check.range("7: model of " + models, Check.INDEX, 0, models - 1, m -> Check.loaded(text).symbol(m, 1, 0));
        }
    }

    /** Promise 7, Terms "A model has a count for each symbol, 0 to 99, of which at least one is above 0." */
    private static void countsOfText() {
        AliasStreams x = Check.loaded("A4m00990109m10000000m00000001");
        int[] want = {0, 99, 1, 9, 10, 0, 0, 0, 0, 0, 0, 1};
        for (int i = 0; i < want.length; i++) {
            Check.due("7: count " + i, x.symbol(i / 4, i % 4, 0), want[i]);
        }
    }

    private static void frequencies(String counts, int... want) {
        AliasStreams x = Check.loaded("A" + want.length + "m" + counts);
        for (int s = 0; s < want.length; s++) {
            Check.due("7: frequency " + s + " of " + counts, x.symbol(0, s, 1), want[s]);
        }
    }

    /** Promise 7, Terms "their sum is 32." */
    private static void sumIsThirtyTwo() {
        String[] some = {"00", "01", "02", "50", "99"};
        for (int i = 1; i < 625; i++) {
            String four = some[i % 5] + some[i / 5 % 5] + some[i / 25 % 5] + some[i / 125];
            AliasStreams x = Check.loaded("A8m" + four + "01009901");
            int sum = 0;
            for (int s = 0; s < 8; s++) {
                sum += x.symbol(0, s, 1);
            }
            Check.due("7: sum of " + four, sum, 32);
        }
    }

    /** Promise 7, Terms "A symbol with the count 0 has the frequency 0." */
    private static void countZero() {
        frequencies("0001", 0, 32);
        frequencies("9900", 32, 0);
        frequencies("00010101", 0, 11, 11, 10);
        frequencies("0000000000000099", 0, 0, 0, 0, 0, 0, 0, 32);
    }

    /** Promise 7, Terms "All others begin with 32 * count / T, rounded down, or with 1 if that is 0." */
    private static void roundedDownOrOne() {
        frequencies("0131", 1, 31);
        frequencies("0132", 1, 31);
        frequencies("0199", 1, 31);
        frequencies("9901", 31, 1);
        frequencies("0230", 2, 30);
        frequencies("0162", 1, 31);
    }

    /** Promise 7, Terms "those with the greatest remainder of 32 * count by T first". */
    private static void greatestRemainderFirst() {
        frequencies("010203", 5, 11, 16);
        frequencies("030405", 8, 11, 13);
        frequencies("050403", 13, 11, 8);
        frequencies("0102030405060708", 2, 2, 3, 3, 4, 5, 6, 7);
        frequencies("0101010101010103", 4, 3, 3, 3, 3, 3, 3, 10);
    }

    /** Promise 7, Terms "(also those that begin with 1)". */
    private static void remainderOfThoseThatBeginWithOne() {
        frequencies("035049", 2, 15, 15);
        frequencies("504903", 15, 15, 2);
    }

    /**
     * Promise 7, Terms "If the sum of these is less than 32, the symbols with counts above 0 get 1 more each,
     * one after the other, until the sum is 32", "among several the smallest symbol first."
     */
    private static void smallestSymbolFirst() {
        frequencies("010101", 11, 11, 10);
        frequencies("999999", 11, 11, 10);
        frequencies("030101", 19, 7, 6);
        frequencies("01010101010101", 5, 5, 5, 5, 4, 4, 4);
    }

    /** Promise 7, Terms "As long as the sum is greater than 32, the symbol with the greatest frequency". */
    private static void greatestFrequencyLess() {
        frequencies("9901010101010101", 25, 1, 1, 1, 1, 1, 1, 1);
        frequencies("0199010101010101", 1, 25, 1, 1, 1, 1, 1, 1);
        frequencies("0101010101010199", 1, 1, 1, 1, 1, 1, 1, 25);
    }

    /** Promise 7, Terms "among several the greatest symbol, gets 1 less." */
    private static void greatestSymbolLess() {
        frequencies("99990101010101", 14, 13, 1, 1, 1, 1, 1);
        frequencies("9999990101010101", 9, 9, 9, 1, 1, 1, 1, 1);
        frequencies("0101010101999901", 1, 1, 1, 1, 1, 13, 13, 1);
        frequencies("9999010101010101", 13, 13, 1, 1, 1, 1, 1, 1);
    }

    /** Promises 8 and 9, Terms "bucket b has the slots 4 * b to 4 * b + 3." */
    private static void slotsOfBuckets() {
        AliasStreams x = Check.loaded("A8m0101010101010101");
        for (int k = 0; k < 32; k++) {
            Check.due("9: slot " + k + " of equal symbols", x.slot(0, k, 0), k / 4);
            Check.due("9: its index", x.slot(0, k, 1), k % 4);
        }
    }

    /** Promise 8, Terms "(0 if there is no such symbol; such a bucket is closed like the others)". */
    private static void bucketsWithoutSymbol() {
        for (int n = 2; n <= 7; n++) {
            AliasStreams x = Check.loaded("A" + n + "m" + "00".repeat(n - 1) + "01");
            for (int b = 0; b < 8; b++) {
                Check.due("8: rest of bucket " + b + " of " + n, x.bucket(0, b, 0), b == n - 1 ? 4 : 0);
                Check.due("8: alias of bucket " + b + " of " + n, x.bucket(0, b, 1), b == n - 1 ? NONE : n - 1);
            }
        }
    }

    private static void buckets(String counts, int[] rests, int[] aliases) {
        AliasStreams x = Check.loaded("A" + counts.length() / 2 + "m" + counts);
        for (int b = 0; b < 8; b++) {
            Check.due("8: rest of bucket " + b + " of " + counts, x.bucket(0, b, 0), rests[b]);
            Check.due("8: alias of bucket " + b + " of " + counts, x.bucket(0, b, 1), aliases[b]);
        }
    }

    /** Promise 8, Terms "the open bucket with the smallest number, of those whose rest is at most 4, is closed". */
    private static void restAtMostFour() {
        buckets("0428", new int[] {4, 4, 0, 0, 0, 0, 0, 0}, new int[] {NONE, NONE, 1, 1, 1, 1, 1, 1});
        buckets("0527", new int[] {4, 3, 0, 0, 0, 0, 0, 0}, new int[] {NONE, 0, 1, 1, 1, 1, 1, 1});
        buckets("2705", new int[] {3, 4, 0, 0, 0, 0, 0, 0}, new int[] {1, NONE, 0, 0, 0, 0, 0, 0});
    }

    /**
     * Promise 8, Terms "as many of its first slots as its rest is belong to symbol b; the other ones, if there are
     * any, belong to its alias".
     */
    private static void firstSlots() {
        AliasStreams x = Check.loaded("A2m0527");
        int[] want = {0, 0, 0, 0, 1, 1, 1, 0, 1};
        for (int k = 0; k < 32; k++) {
            Check.due("9: slot " + k, x.slot(0, k, 0), k < want.length ? want[k] : 1);
        }
        AliasStreams y = Check.loaded("A2m0131");
        for (int k = 0; k < 32; k++) {
            Check.due("9: slot " + k, y.slot(0, k, 0), k == 0 ? 0 : 1);
        }
    }

    /** Promise 8, Terms "which is the symbol of the open bucket (other than b) with the greatest rest". */
    private static void aliasWithGreatestRest() {
        buckets("010203", new int[] {4, 3, 4, 0, 0, 0, 0, 0}, new int[] {NONE, 0, NONE, 2, 2, 1, 2, 1});
        buckets("035049", new int[] {2, 4, 3, 0, 0, 0, 0, 0}, new int[] {1, NONE, 1, 2, 1, 2, 1, 2});
    }

    /**
     * Promise 8, Terms "among several the one with the smallest number; the rest of that bucket decreases by the
     * number of these slots."
     */
    private static void aliasWithSmallestNumber() {
        buckets("0101", new int[] {4, 4, 0, 0, 0, 0, 0, 0}, new int[] {NONE, NONE, 0, 1, 0, 1, 0, 1});
        buckets("01010101", new int[] {4, 4, 4, 4, 0, 0, 0, 0}, new int[] {NONE, NONE, NONE, NONE, 0, 1, 2, 3});
    }

    /** Promise 9, Terms "(The slots of a symbol are then as many as its frequency.)" */
    private static void asManySlotsAsFrequency() {
        AliasStreams x = Check.loaded(MOST);
        for (int m = 0; m < 3; m++) {
            int[] slots = new int[8];
            for (int k = 0; k < 32; k++) {
                slots[x.slot(m, k, 0)]++;
            }
            for (int s = 0; s < 8; s++) {
                Check.due("9: slots of symbol " + s, slots[s], x.symbol(m, s, 1));
            }
        }
    }

    /** Promise 9, Terms "The slots of a symbol are indexed from 0 by their numbers." */
    private static void indexOfSlots() {
        AliasStreams x = Check.loaded("A2m0527m0001");
        int[] want = {0, 1, 2, 3, 0, 1, 2, 4, 3};
        for (int k = 0; k < 32; k++) {
            Check.due("9: index of slot " + k, x.slot(0, k, 1), k < want.length ? want[k] : k - 5);
            Check.due("9: index of slot " + k + " of one symbol", x.slot(1, k, 1), k);
        }
    }

    /** Promise 6, "Throws IllegalArgumentException if what is not 0 to 6". */
    private static void aboutRange() {
        Check.range("6: what", Check.ARGUMENT, 0, 6, what -> new AliasStreams().about(what));
        Check.range("6: what", Check.ARGUMENT, 0, 6, what -> Check.encoded(MOST).about(what));
    }

    private static void abouts(AliasStreams x, int... want) {
        for (int what = 0; what < want.length; what++) {
            Check.due("6: about(" + what + ")", x.about(what), want[what]);
        }
    }

    /**
     * Promise 6, "0: n; 1: the number of models; 2: the number of items of the message; 3: that of its symbols;
     * 4: the number of digits of the tape; 5: that of the symbols of its plan".
     */
    private static void aboutNumbers() {
        abouts(Check.loaded("A2m0101"), 2, 1, 0, 0, 0, 0, 1);
        abouts(Check.encoded("A2m0101m0101:10"), 2, 2, 2, 0, 0, 0, 1);
        abouts(Check.encoded("A2m0199:" + "a".repeat(40)), 2, 1, 40, 40, 50, 40, 1);
        abouts(Check.loaded("A2m0199:" + "a".repeat(40)), 2, 1, 40, 40, 0, 0, 1);
        abouts(Check.encoded("A2m0101:" + "0".repeat(39) + "a"), 2, 1, 40, 1, 0, 1, 1);
        abouts(Check.encoded(MOST), 8, 3, 0, 0, 0, 0, 1);
    }

    /**
     * Promise 7, "Throws IndexOutOfBoundsException if there is no such model or symbol", "IllegalArgumentException
     * if what is not 0 or 1".
     */
    private static void symbolRefuses() {
        Check.range("7: m", Check.INDEX, 0, 2, m -> Check.loaded(MOST).symbol(m, 0, 1));
        Check.range("7: s", Check.INDEX, 0, 7, s -> Check.loaded(MOST).symbol(2, s, 1));
        Check.range("7: what", Check.ARGUMENT, 0, 1, what -> Check.loaded(MOST).symbol(2, 7, what));
        Check.refusesAll("7: m and what", Check.INDEX, 0, 2, m -> Check.loaded(MOST).symbol(m, 0, 2));
        Check.refusesAll("7: s and what", Check.INDEX, 0, 7, s -> Check.loaded(MOST).symbol(0, s, -1));
    }

    /**
     * Promise 8, "b: bucket, 0 to 7", "Throws IndexOutOfBoundsException if there is no such model or bucket", "if
     * what is not 0 or 1".
     */
    private static void bucketRefuses() {
        Check.range("8: m", Check.INDEX, 0, 2, m -> Check.loaded(MOST).bucket(m, 0, 0));
        Check.range("8: b", Check.INDEX, 0, 7, b -> Check.loaded(MOST).bucket(2, b, 0));
        Check.range("8: b of two symbols", Check.INDEX, 0, 7, b -> new AliasStreams().bucket(0, b, 1));
        Check.range("8: what", Check.ARGUMENT, 0, 1, what -> Check.loaded(MOST).bucket(2, 7, what));
        Check.refusesAll("8: m and what", Check.INDEX, 0, 2, m -> Check.loaded(MOST).bucket(m, 0, 2));
        Check.refusesAll("8: b and what", Check.INDEX, 0, 7, b -> Check.loaded(MOST).bucket(0, b, -1));
    }

    /** Promise 8, "0: its rest when it is closed; 1: its alias (NONE if it has none)". */
    private static void bucketWithoutAlias() {
        for (int b = 0; b < 8; b++) {
            AliasStreams x = Check.loaded(MOST);
            Check.due("8: a full bucket's rest", x.bucket(2, b, 0), 4);
            Check.due("8: a full bucket has no alias", x.bucket(2, b, 1), NONE);
            Check.due("8: an empty bucket's rest", x.bucket(1, b, 0), b == 7 ? 4 : 0);
            Check.due("8: an empty bucket's alias", x.bucket(1, b, 1), b == 7 ? NONE : 7);
        }
    }

    /**
     * Promise 9, "k: slot, 0 to 31", "Throws IndexOutOfBoundsException if there is no such model or slot", "if
     * what is not 0 or 1".
     */
    private static void slotRefuses() {
        Check.range("9: m", Check.INDEX, 0, 2, m -> Check.loaded(MOST).slot(m, 0, 0));
        Check.range("9: k", Check.INDEX, 0, 31, k -> Check.loaded(MOST).slot(2, k, 0));
        Check.range("9: what", Check.ARGUMENT, 0, 1, what -> Check.loaded(MOST).slot(2, 31, what));
        Check.refusesAll("9: m and what", Check.INDEX, 0, 2, m -> Check.loaded(MOST).slot(m, 0, 2));
        Check.refusesAll("9: k and what", Check.INDEX, 0, 31, k -> Check.loaded(MOST).slot(0, k, -1));
    }

    /** Promise 12, "c: new count, 0 to 99", "Throws IllegalArgumentException if c is out of range". */
    private static void setCountRange() {
        Check.range("12: c", Check.ARGUMENT, 0, 99, c -> Check.loaded(MOST).setCount(2, 7, c));
        AliasStreams x = Check.loaded(MOST);
        for (int c = 0; c <= 99; c++) {
            x.setCount(2, 0, c);
            Check.due("12: the new count", x.symbol(2, 0, 0), c);
        }
    }

    /** Promise 12, "Returns the previous count." */
    private static void setCountAnswers() {
        AliasStreams x = Check.loaded(MOST);
        Check.due("12: from 99", x.setCount(0, 0, 0), 99);
        Check.due("12: from 0", x.setCount(0, 0, 99), 0);
        Check.due("12: to the same", x.setCount(0, 0, 99), 99);
        Check.due("12: another symbol", x.setCount(0, 7, 5), 1);
        Check.due("12: another model", x.setCount(2, 0, 5), 1);
    }

    /** Promise 12, "Changes a count; the frequencies and slots of the model are made anew." */
    private static void setCountMakesAnew() {
        AliasStreams x = Check.loaded("A2m0101m0101:ab");
        x.setCount(1, 0, 0);
        Check.due("12: frequency 0", x.symbol(1, 0, 1), 0);
        Check.due("12: frequency 1", x.symbol(1, 1, 1), 32);
        Check.due("12: slot", x.slot(1, 0, 0), 1);
        Check.due("12: index", x.slot(1, 31, 1), 31);
        Check.due("12: rest", x.bucket(1, 0, 0), 0);
        Check.due("12: alias", x.bucket(1, 0, 1), 1);
        Check.due("12: the other model stays", x.slot(0, 0, 0), 0);
        Check.same("12: all else stays", Check.state(x), "1/16 1/16 |0/0 1/32 |ab|||512 512");
        x.setCount(1, 0, 1);
        Check.due("12: there and back", x.slot(1, 0, 0), 0);
    }

    /** Promise 12, "are made anew": of the counts alone, whatever the frequencies and slots were before. */
    private static void setCountLikeLoaded() {
        sameTables("A7m01010101010101", 6, 0, "A7m01010101010100");
        sameTables("A7m01010101010101", 0, 99, "A7m99010101010101");
        sameTables("A8m0101010101010199", 7, 98, "A8m0101010101010198");
        sameTables("A8m0101010101010199", 0, 50, "A8m5001010101010199");
        sameTables("A3m035049", 0, 0, "A3m005049");
    }

    private static void sameTables(String text, int s, int c, String like) {
        AliasStreams x = Check.loaded(text);
        x.setCount(0, s, c);
        AliasStreams y = Check.loaded(like);
        Check.same("12: frequencies of " + like, Check.state(x), Check.state(y));
        for (int k = 0; k < 32; k++) {
            Check.due("12: slot " + k + " of " + like, x.slot(0, k, 0), y.slot(0, k, 0));
            Check.due("12: index " + k + " of " + like, x.slot(0, k, 1), y.slot(0, k, 1));
        }
        for (int b = 0; b < 8; b++) {
            Check.due("12: rest " + b + " of " + like, x.bucket(0, b, 0), y.bucket(0, b, 0));
            Check.due("12: alias " + b + " of " + like, x.bucket(0, b, 1), y.bucket(0, b, 1));
        }
    }

    /** Promise 12, "Throws IllegalStateException if all counts of the model would be 0". */
    private static void setCountAllZero() {
        AliasStreams x = Check.loaded("A3m000100m010101");
        Check.refuses("12: the only count", Check.STATE, () -> x.setCount(0, 1, 0));
        Check.due("12: another one that is 0", x.setCount(0, 0, 0), 0);
        Check.due("12: the only count above 0", x.setCount(0, 1, 99), 1);
        Check.due("12: a second one", x.setCount(0, 2, 1), 0);
        Check.due("12: then the first may go", x.setCount(0, 1, 0), 99);
        Check.refuses("12: but not the second", Check.STATE, () -> x.setCount(0, 2, 0));
        Check.due("12: the other model has its own", x.setCount(1, 0, 0), 1);
        Check.due("12: the other model has its own", x.setCount(1, 1, 0), 1);
        Check.refuses("12: and must keep one", Check.STATE, () -> x.setCount(1, 2, 0));
    }

    /**
     * Promise 12, "Throws IndexOutOfBoundsException if there is no such model or symbol", and which exception
     * comes first.
     */
    private static void setCountRefuses() {
        Check.range("12: m", Check.INDEX, 0, 2, m -> Check.loaded(MOST).setCount(m, 0, 1));
        Check.range("12: s", Check.INDEX, 0, 7, s -> Check.loaded(MOST).setCount(2, s, 1));
        Check.refusesAll("12: m and c", Check.INDEX, 0, 2, m -> Check.loaded(MOST).setCount(m, 0, 100));
        Check.refusesAll("12: s and c", Check.INDEX, 0, 7, s -> Check.loaded(MOST).setCount(0, s, -1));
        Check.refusesAll("12: c below 0 of the only count", Check.ARGUMENT, 0, 99,
            c -> Check.loaded(MOST).setCount(1, 7, c));
    }
}
