/** The boundary cases of promises 11 and 15 to 19, of STATES AND DIGITS and of the tape, a test for each sentence. */
public final class TapeEdgesTest {
    private static final String THREE = "A2m0101m0199m0001";
    private static final String MOST = "A2m0199m0101m0001:" + "a".repeat(40);

    public static void main(String[] args) {
        tapeWhat();
        tapeDigit();
        tapePlan();
        tapeHead();
        putAtTheLimit();
        putBelowTheLimit();
        putTwoDigits();
        putRoundsDown();
        putIntoItsSlot();
        encodeBeginsAnew();
        encodeInTurn();
        encodeAnswers();
        encodeNothing();
        encodePlan();
        encodeRefuses();
        encodeIgnoresUnusedZeros();
        decodeChanges();
        decodeNothing();
        decodeFortyItems();
        decodeFails();
        decodeKeepsTheTape();
        setDigitRange();
        setDigitRefuses();
        setDigitAnswers();
        setHeadRange();
        setHeadRefuses();
        setHeadAnswers();
        setPlanRefuses();
        setPlanAnswers();
        Check.finish();
    }

    /** Promise 11, "Throws IllegalArgumentException if what is not 0 to 2", which is named first. */
    private static void tapeWhat() {
        Check.range("11: what", Check.ARGUMENT, 0, 2, what -> Check.encoded(MOST).tape(what, 0));
        Check.refusesAll("11: what and k", Check.ARGUMENT, 0, 2, what -> Check.encoded(MOST).tape(what, -1));
        Check.refusesAll("11: what and k", Check.ARGUMENT, 0, 2, what -> Check.encoded(MOST).tape(what, 99));
    }

    /** Promise 11, "Throws IndexOutOfBoundsException if there is no such digit". */
    private static void tapeDigit() {
        Check.refusesAll("11: a digit of none", Check.INDEX, 0, -1, k -> new AliasStreams().tape(0, k));
        Check.range("11: a digit of one", Check.INDEX, 0, 0, k -> Check.encoded("A2m0199:a").tape(0, k));
        Check.range("11: a digit of fifty", Check.INDEX, 0, 49, k -> Check.encoded(MOST).tape(0, k));
    }

    /** Promise 11, "if there is no such", "symbol of the plan". */
    private static void tapePlan() {
        Check.refusesAll("11: the plan of none", Check.INDEX, 0, -1, k -> Check.loaded(MOST).tape(1, k));
        Check.range("11: the plan of one", Check.INDEX, 0, 0, k -> Check.encoded("A2m0101:a").tape(1, k));
        Check.range("11: the plan of forty", Check.INDEX, 0, 39, k -> Check.encoded(MOST).tape(1, k));
    }

    /** Promise 11, "or head"; Terms "two heads, 0 and 1, which are states." */
    private static void tapeHead() {
        Check.range("11: a head", Check.INDEX, 0, 1, k -> new AliasStreams().tape(2, k));
        Check.range("11: a head", Check.INDEX, 0, 1, k -> Check.encoded(MOST).tape(2, k));
    }

    private static void tapeOf(String text, String digits, int head0, int head1) {
        AliasStreams x = Check.encoded(text);
        Check.same("15: digits of " + text, Check.digits(x), digits);
        Check.due("15: head 0 of " + text, x.tape(2, 0), head0);
        Check.due("15: head 1 of " + text, x.tape(2, 1), head1);
    }

    /**
     * Promise 15, Terms "as long as x is at least 256 * f": the state 512 and the frequency 2, 4096 and 16, 1024
     * and 4.
     */
    private static void putAtTheLimit() {
        tapeOf("A2m0230:a", "0", 512, 512);
        tapeOf("A2m0101:aaaaaaa", "0", 512, 4096);
        tapeOf("A2m0428:aaaaaaa", "00000", 512, 1024);
    }

    /** Promise 15, Terms "as long as x is at least 256 * f": not 512 and the frequency 3, nor 4351 and 17. */
    private static void putBelowTheLimit() {
        tapeOf("A2m0329:a", "", 5442, 512);
        tapeOf("A3m901960:aacac", "", 8187, 1809);
    }

    /** Promise 15, Terms "as long as": two digits from the state 4096 and the frequency 1, but one from 4095. */
    private static void putTwoDigits() {
        tapeOf("A2m0199:aaaaa", "00000", 4096, 2048);
        tapeOf("A2m0199:aaaaaaa", "00000000", 512, 4096);
        tapeOf("A3m820426:acacaaac", "5", 1620, 4095);
        tapeOf("A3m820426:bacacaaac", "5f", 8164, 1620);
    }

    /**
     * Promise 15, Terms "the digit x % 16 is written at the end of the tape, and x becomes x / 16 (rounded down)".
     */
    private static void putRoundsDown() {
        tapeOf("A2m0101:bbbbbbbb", "cc", 517, 517);
        AliasStreams x = Check.encoded("A2m0101:" + "ab".repeat(20));
        Check.same("15: the last digit is the first one taken", Check.takenSymbols(x), "ab".repeat(20));
        Check.due("15: what is left", x.about(6), 1);
    }

    /**
     * Promise 15, Terms "then x becomes 32 * (x / f) + (the number of the slot of the symbol with the index x %
     * f)."
     */
    private static void putIntoItsSlot() {
        tapeOf("A2m0527:a", "", 3266, 512);
        tapeOf("A2m0527:b", "", 607, 512);
        tapeOf("A2m0527:aab", "", 3874, 3266);
        tapeOf("A2m0527:aaa", "2", 1287, 3266);
        tapeOf("A2m0527m0001:1bb0b", "", 607, 512);
    }

    /** Promise 15, Terms "the digits are removed, both heads become 512". */
    private static void encodeBeginsAnew() {
        AliasStreams x = Check.encoded(MOST);
        x.setHead(0, 8191);
        x.setHead(1, 513);
        Check.due("15: encoded again", x.encode(), 50);
        Check.due("15: head 0", x.tape(2, 0), 512);
        Check.due("15: head 1", x.tape(2, 1), 512);
        for (int i = 39; i >= 1; i--) {
            x.remove(i);
        }
        Check.due("15: a shorter message", x.encode(), 1);
        Check.due("15: a shorter plan", x.about(5), 1);
        Check.due("15: head 0", x.tape(2, 0), 1024);
        Check.due("15: head 1", x.tape(2, 1), 512);
    }

    /**
     * Promise 15, Terms "then the symbols are put, the last one first, symbol k into head k % 2 with its model."
     */
    private static void encodeInTurn() {
        tapeOf("A2m0101:a", "", 1024, 512);
        tapeOf("A2m0101:b", "", 1028, 512);
        tapeOf("A2m0101:ab", "", 1024, 1028);
        tapeOf("A2m0101:aba", "", 2048, 1028);
        tapeOf("A2m0001m0101:b1b", "", 512, 1028);
        tapeOf(THREE + ":1a0b", "0", 1024, 1028);
    }

    /** Promise 15, "Returns the number of digits then." */
    private static void encodeAnswers() {
        Check.due("15: none", Check.loaded("A2m0101:a").encode(), 0);
        Check.due("15: one", Check.loaded("A2m0199:a").encode(), 1);
        Check.due("15: fifty", Check.loaded(MOST).encode(), 50);
        Check.due("15: frequency 32 writes none", Check.loaded("A2m0001:" + "b".repeat(40)).encode(), 0);
    }

    /** Promise 15, "Encodes the message": one without symbols gives the tape as at first. */
    private static void encodeNothing() {
        String[] messages = {"", ":0", ":" + "12".repeat(20)};
        for (String message : messages) {
            AliasStreams x = Check.loaded(THREE + message);
            x.setHead(0, 600);
            x.setHead(1, 700);
            Check.due("15: of " + message, x.encode(), 0);
            Check.due("15: its plan", x.about(5), 0);
            Check.due("15: its head 0", x.tape(2, 0), 512);
            Check.due("15: its head 1", x.tape(2, 1), 512);
            Check.due("15: intact", x.about(6), 1);
        }
    }

    /** Promise 15, Terms "To encode a message means: the plan becomes the models of its symbols". */
    private static void encodePlan() {
        Check.same("15: the plan", Check.plan(Check.encoded(THREE + ":a1a2b0b1")), "0120");
        Check.same("15: forty", Check.plan(Check.encoded(MOST)), "0".repeat(40));
        Check.same("15: thirty-nine", Check.plan(Check.encoded(THREE + ":2" + "b".repeat(39))), "2".repeat(39));
    }

    /** Promise 15, "Throws IllegalStateException if a symbol of the message has the frequency 0 in its model". */
    private static void encodeRefuses() {
        String[] wrong = {":2a", ":2ab", ":2ba", ":b2b0a2a", ":2" + "b".repeat(38) + "a"};
        for (String message : wrong) {
            Check.refuses("15: encode() of " + message, Check.STATE, Check.loaded(THREE + message)::encode);
        }
        AliasStreams x = Check.encoded(THREE + ":ab");
        x.setCount(0, 0, 0);
        Check.refuses("15: with the frequencies of now", Check.STATE, x::encode);
        x.remove(0);
        Check.due("15: without that symbol", x.encode(), 0);
    }

    /** Promise 15, "has the frequency 0 in its model": a 0 of another symbol or of another model is no matter. */
    private static void encodeIgnoresUnusedZeros() {
        Check.due("15: the other symbol has 0", Check.loaded("A2m0001:bb").encode(), 0);
        Check.due("15: the other model has 0", Check.loaded("A2m0001m0101:1aa0").encode(), 0);
    }

    private static void decoding(String message, String want) {
        AliasStreams x = Check.encoded(THREE + message);
        Check.due("16: items of " + message, x.decode(), want.length());
        Check.same("16: message of " + message, Check.message(x), want);
    }

    /**
     * Promise 16, "before each symbol whose model is not that of the symbol before it (not model 0 for the first one)
     * there is a change to its model."
     */
    private static void decodeChanges() {
        decoding(":ab", "ab");
        decoding(":0ab", "ab");
        decoding(":1ab", "1ab");
        decoding(":a1a1b", "a1ab");
        decoding(":1a0b", "1a0b");
        decoding(":a12b0a", "a2b0a");
        decoding(":ab1", "ab");
        decoding(":1212", "");
    }

    /** Promise 16, "Replaces the message by the symbols of the tape": an empty tape gives an empty message. */
    private static void decodeNothing() {
        AliasStreams x = Check.loaded(MOST);
        Check.due("16: an empty tape", x.decode(), 0);
        Check.due("16: no items", x.about(2), 0);
        Check.due("16: which is an action", x.undo(), 0);
        Check.due("16: forty items again", x.about(2), 40);
        AliasStreams odd = Check.loaded("A2m0101:a");
        odd.setHead(0, 8191);
        Check.due("16: an empty tape with another head", odd.decode(), 0);
    }

    /** Promise 16, "Throws IllegalStateException if the tape fails, or there would be more than 40 items". */
    private static void decodeFortyItems() {
        AliasStreams x = Check.encoded("A2m0101m0101:" + "a".repeat(40));
        Check.due("16: forty symbols", x.decode(), 40);
        x.setPlan(39, 1);
        Check.refuses("16: forty symbols and a change", Check.STATE, x::decode);
        x.setPlan(39, 0);
        x.setPlan(0, 1);
        Check.refuses("16: forty symbols and two changes", Check.STATE, x::decode);
        AliasStreams y = Check.encoded("A2m0101m0101:1" + "a".repeat(39));
        Check.due("16: 39 symbols and a change", y.decode(), 40);
        y.setPlan(38, 0);
        Check.refuses("16: 39 symbols and two changes", Check.STATE, y::decode);
        AliasStreams z = Check.encoded("A2m0101m0101:" + "1a0a".repeat(10));
        Check.due("16: twenty symbols and twenty changes", z.decode(), 40);
    }

    /** Promise 16, "if the tape fails": at the first symbol, at the last one. */
    private static void decodeFails() {
        AliasStreams first = Check.encoded("A2m0199:b");
        first.setHead(0, 512);
        Check.refuses("16: it fails at the first symbol", Check.STATE, first::decode);
        AliasStreams last = Check.encoded("A2m0199:bb");
        last.setHead(1, 512);
        Check.refuses("16: it fails at the last symbol", Check.STATE, last::decode);
        Check.same("16: the message stays", Check.message(last), "bb");
        AliasStreams odd = Check.encoded("A2m0101:bb");
        odd.setHead(1, 8191);
        Check.due("16: one that is not intact does not fail", odd.decode(), 2);
    }

    /** Promise 16, "The tape stays." */
    private static void decodeKeepsTheTape() {
        AliasStreams x = Check.encoded("A2m0199m0101:aa1ab0a");
        String tape = Check.digits(x) + Check.plan(x) + x.tape(2, 0) + x.tape(2, 1);
        x.decode();
        Check.same("16: the tape", Check.digits(x) + Check.plan(x) + x.tape(2, 0) + x.tape(2, 1), tape);
        Check.due("16: intact", x.about(6), 1);
        Check.due("16: decoded again", x.decode(), 7);
    }

    /** Promise 17, "v: new digit, 0 to 15", "Throws IllegalArgumentException if v is out of range". */
    private static void setDigitRange() {
        Check.range("17: v", Check.ARGUMENT, 0, 15, v -> Check.encoded(MOST).setDigit(49, v));
        AliasStreams x = Check.encoded(MOST);
        for (int v = 0; v < 16; v++) {
            x.setDigit(v, v);
            Check.due("17: the new digit", x.tape(0, v), v);
        }
    }

    /** Promise 17, "Throws IndexOutOfBoundsException if there is no such digit", which is named first. */
    private static void setDigitRefuses() {
        Check.refusesAll("17: k of none", Check.INDEX, 0, -1, k -> Check.encoded("A2m0101:a").setDigit(k, 0));
        Check.range("17: k of one", Check.INDEX, 0, 0, k -> Check.encoded("A2m0199:a").setDigit(k, 0));
        Check.range("17: k of fifty", Check.INDEX, 0, 49, k -> Check.encoded(MOST).setDigit(k, 0));
        Check.refusesAll("17: k and v", Check.INDEX, 0, 49, k -> Check.encoded(MOST).setDigit(k, 16));
        Check.refuses("17: v of none", Check.INDEX, () -> new AliasStreams().setDigit(0, -1));
    }

    /** Promise 17, "Returns the previous digit." */
    private static void setDigitAnswers() {
        AliasStreams x = Check.encoded("A2m0101:bbbbbbbb");
        Check.due("17: the last one", x.setDigit(1, 15), 12);
        Check.due("17: from 15", x.setDigit(1, 0), 15);
        Check.due("17: from 0", x.setDigit(1, 0), 0);
        Check.same("17: the digits", Check.digits(x), "c0");
    }

    /**
     * Promise 18, "x: new state, 512 to 8191", "Throws IllegalArgumentException if x is out of range"; Terms "A
     * state is a number from 512 to 8191."
     */
    private static void setHeadRange() {
        Check.range("18: x", Check.ARGUMENT, 512, 8191, x -> new AliasStreams().setHead(0, x));
        Check.range("18: x", Check.ARGUMENT, 512, 8191, x -> new AliasStreams().setHead(1, x));
    }

    /** Promise 18, "Throws IndexOutOfBoundsException if there is no such head", which is named first. */
    private static void setHeadRefuses() {
        Check.range("18: h", Check.INDEX, 0, 1, h -> new AliasStreams().setHead(h, 600));
        Check.refusesAll("18: h and x", Check.INDEX, 0, 1, h -> new AliasStreams().setHead(h, 511));
        Check.refusesAll("18: h and x", Check.INDEX, 0, 1, h -> new AliasStreams().setHead(h, 8192));
    }

    /** Promise 18, "Returns the previous state." */
    private static void setHeadAnswers() {
        AliasStreams x = new AliasStreams();
        Check.due("18: from 512", x.setHead(1, 8191), 512);
        Check.due("18: from 8191", x.setHead(1, 512), 8191);
        Check.due("18: to the same", x.setHead(1, 512), 512);
        Check.due("18: the other one", x.setHead(0, 513), 512);
        Check.due("18: head 0", x.tape(2, 0), 513);
        Check.due("18: head 1", x.tape(2, 1), 512);
    }

    /** Promise 19, "Throws IndexOutOfBoundsException if there is no such symbol of the plan, or no such model". */
    private static void setPlanRefuses() {
        Check.refusesAll("19: k of none", Check.INDEX, 0, -1, k -> Check.loaded(MOST).setPlan(k, 0));
        Check.range("19: k of one", Check.INDEX, 0, 0, k -> Check.encoded("A2m0101m0101:a").setPlan(k, 1));
        Check.range("19: k of forty", Check.INDEX, 0, 39, k -> Check.encoded(MOST).setPlan(k, 2));
        Check.range("19: m of one", Check.INDEX, 0, 0, m -> Check.encoded("A2m0101:a").setPlan(0, m));
        Check.range("19: m of three", Check.INDEX, 0, 2, m -> Check.encoded(MOST).setPlan(39, m));
        Check.refuses("19: k and m", Check.INDEX, () -> Check.encoded(MOST).setPlan(40, 3));
    }

    /** Promise 19, "Returns the previous model." */
    private static void setPlanAnswers() {
        AliasStreams x = Check.encoded("A2m0101m0101m0101:a2b");
        Check.due("19: from 0", x.setPlan(0, 2), 0);
        Check.due("19: from 2", x.setPlan(0, 0), 2);
        Check.due("19: to the same", x.setPlan(1, 2), 2);
        Check.due("19: from 2 to 1", x.setPlan(1, 1), 2);
        Check.same("19: the plan", Check.plan(x), "01");
        Check.same("19: the message stays", Check.message(x), "a2b");
    }
}
