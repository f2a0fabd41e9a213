/** Promises 11, 15 to 19, 21, 22, 27 and 28 on ordinary inputs: tape and what is done with it. */
public final class TapeTest {
    private static final String A8 = "A2m0101:aaaaaaaa";
    private static final String B8 = "A2m0101:bbbbbbbb";
    private static final String RARE8 = "A2m0199:aaaaaaaa";

    public static void main(String[] args) {
        tape();
        encode();
        decode();
        setDigit();
        setHead();
        setPlan();
        taken();
        failure();
        difference();
        effect();
        Check.finish();
    }

    private static void tape() {
        AliasStreams x = Check.encoded("A2m0101m0101:1b0bbbbbbb");
        Check.due("11: digit 0", x.tape(0, 0), 12);
        Check.due("11: digit 1", x.tape(0, 1), 12);
        Check.due("11: plan 0", x.tape(1, 0), 1);
        Check.due("11: plan 7", x.tape(1, 7), 0);
        Check.due("11: head 0", x.tape(2, 0), 517);
        Check.due("11: head 1", x.tape(2, 1), 517);
    }

    private static void encoding(String text, String want) {
        AliasStreams x = Check.loaded(text);
        int digits = x.encode();
        String heads = x.tape(2, 0) + " " + x.tape(2, 1);
        Check.same("15: " + text, Check.digits(x) + "|" + Check.plan(x) + "|" + heads, want);
        Check.due("15: digits of " + text, digits, Check.digits(x).length());
        Check.due("15: intact: " + text, x.about(6), 1);
    }

    private static void encode() {
        encoding("A2m0101", "||512 512");
        encoding("A2m0101m0101:1", "||512 512");
        encoding("A2m0101:a", "|0|1024 512");
        encoding("A2m0101:aa", "|00|1024 1024");
        encoding(A8, "00|00000000|512 512");
        encoding(B8, "cc|00000000|517 517");
        encoding("A2m0199:a", "0|0|1024 512");
        encoding(RARE8, "0000000000|00000000|512 512");
        encoding("A2m0199:" + "a".repeat(40), "0".repeat(50) + "|" + "0".repeat(40) + "|512 512");
        encoding("A2m0101m0001m0199:1b2aa0a", "00|1220|1024 2048");
        encoding("A2m0001:" + "b".repeat(40), "|" + "0".repeat(40) + "|512 512");
        AliasStreams x = Check.encoded(B8);
        x.setHead(0, 8000);
        x.remove(0);
        Check.due("15: encoding again begins anew", x.encode(), 1);
        Check.same("15: the tape then", Check.digits(x) + " " + x.tape(2, 0) + " " + x.tape(2, 1), "c 517 4124");
        Check.due("15: encode is an action", x.undo(), 3);
        Check.same("15: undone", Check.digits(x) + " " + x.tape(2, 0) + " " + x.tape(2, 1), "cc 8000 517");
    }

    private static void decode() {
        AliasStreams x = Check.encoded("A3m010203m990101m010101:0a10b2222c0ab1");
        int before = x.about(4);
        Check.due("16: decode()", x.decode(), 7);
        Check.same("16: only the changes that are needed", Check.message(x), "ab2c0ab");
        Check.due("16: the tape stays", x.about(4), before);
        Check.due("16: decode is an action", x.undo(), 1);
        Check.same("16: undone", Check.message(x), "0a10b2222c0ab1");
        AliasStreams y = Check.encoded("A2m0101m0101:1ab");
        Check.due("16: a change before the first one", y.decode(), 3);
        Check.same("16: a change before the first one", Check.message(y), "1ab");
        AliasStreams z = Check.loaded("A2m0101:ab");
        Check.due("16: an empty tape", z.decode(), 0);
        Check.due("16: which is an action", z.undo(), 0);
        AliasStreams changed = Check.encoded(A8);
        changed.setDigit(0, 5);
        Check.due("16: a changed tape", changed.decode(), 8);
        Check.same("16: a changed tape", Check.message(changed), "aaabaaaa");
    }

    private static void setDigit() {
        AliasStreams x = Check.encoded(B8);
        Check.due("17: setDigit(1, 0)", x.setDigit(1, 0), 12);
        Check.due("17: setDigit(1, 15)", x.setDigit(1, 15), 0);
        Check.due("17: setDigit(0, 12)", x.setDigit(0, 12), 12);
        Check.same("17: the digits", Check.digits(x), "cf");
        Check.due("17: each is an action", x.undo(), 3);
        Check.due("17: each is an action", x.undo(), 2);
    }

    private static void setHead() {
        AliasStreams x = new AliasStreams();
        Check.due("18: setHead(0, 8191)", x.setHead(0, 8191), 512);
        Check.due("18: setHead(1, 512)", x.setHead(1, 512), 512);
        Check.due("18: setHead(0, 600)", x.setHead(0, 600), 8191);
        Check.due("18: head 0", x.tape(2, 0), 600);
        Check.due("18: head 1", x.tape(2, 1), 512);
        Check.due("18: three actions", x.undo(), 2);
        Check.due("18: undone", x.tape(2, 0), 8191);
    }

    private static void setPlan() {
        AliasStreams x = Check.encoded("A2m0101m0001:ab");
        Check.due("19: setPlan(0, 1)", x.setPlan(0, 1), 0);
        Check.due("19: setPlan(0, 1) again", x.setPlan(0, 1), 1);
        Check.same("19: the plan", Check.plan(x), "10");
        Check.same("19: the tape is taken with it", Check.takenSymbols(x), "bb");
        Check.same("19: the message stays", Check.message(x), "ab");
        Check.due("19: two actions after encode", x.undo(), 2);
        Check.due("19: undone", x.undo(), 1);
        Check.same("19: undone", Check.plan(x), "00");
    }

    private static void row(AliasStreams x, int k, int... want) {
        for (int what = 0; what < 4; what++) {
            Check.due("21: taken(" + k + ", " + what + ")", x.taken(k, what), want[what]);
        }
    }

    private static void taken() {
        AliasStreams x = Check.encoded(B8);
        row(x, 0, 1, 517, 2, 1);
        row(x, 1, 1, 517, 1, 1);
        row(x, 2, 1, 4124, 0, 0);
        row(x, 7, 1, 1028, 0, 0);
        AliasStreams rare = Check.encoded(RARE8);
        row(rare, 0, 0, 512, 10, 2);
        row(rare, 1, 0, 512, 8, 2);
        row(rare, 2, 0, 4096, 6, 1);
        rare.setHead(1, 544);
        row(rare, 1, 0, 544, 8, 2);
        AliasStreams failing = Check.encoded("A2m0199:aba");
        failing.setHead(0, 512);
        failing.setDigit(0, 3);
        row(failing, 0, 0, 512, 2, 2);
        row(failing, 1, 1, failing.tape(2, 1), 0, 0);
        failing.setHead(1, 512);
        row(failing, 1, -9, 512, 0, -9);
        row(failing, 2, -9, -9, -9, -9);
    }

    private static void failure() {
        Check.due("22: an empty tape", new AliasStreams().failure(), -9);
        AliasStreams x = Check.encoded("A2m0199:a");
        Check.due("22: as encoded", x.failure(), -9);
        x.setHead(0, 512);
        Check.due("22: one of two digits is there", x.failure(), 0);
        Check.due("22: the digits before", x.taken(0, 2), 1);
        Check.due("22: the symbol is not told", x.taken(0, 0), -9);
        Check.due("22: nor what it removes", x.taken(0, 3), -9);
        Check.due("22: a tape that fails is not intact", x.about(6), 0);
        AliasStreams y = Check.encoded("A2m0199:bba");
        y.setCount(0, 0, 99);
        y.setCount(0, 1, 0);
        Check.due("22: taken with new counts", y.failure(), -9);
        Check.same("22: taken with new counts", Check.takenSymbols(y), "aaa");
    }

    private static void difference() {
        Check.due("27: both are empty", new AliasStreams().difference(), -9);
        Check.due("27: only the message is there", Check.loaded("A2m0101:a").difference(), 0);
        AliasStreams x = Check.encoded("A2m0101m0101:ab1ab");
        Check.due("27: alike", x.difference(), -9);
        x.remove(2);
        Check.due("27: changes do not count", x.difference(), -9);
        x.insert(4, 0);
        Check.due("27: the message has more", x.difference(), 4);
        x.remove(4);
        x.remove(3);
        Check.due("27: the message has fewer", x.difference(), 3);
        x.remove(0);
        Check.due("27: another symbol", x.difference(), 0);
        AliasStreams failing = Check.encoded("A2m0199:bbaa");
        failing.setHead(1, 512);
        failing.setHead(0, 512);
        failing.setDigit(0, 0);
        Check.due("27: another symbol before the failure", failing.difference(), 0);
        AliasStreams z = Check.encoded("A2m0199:aa");
        z.setHead(1, 512);
        Check.due("27: fails at 1", z.failure(), 1);
        Check.due("27: only the message is there", z.difference(), 1);
        z.remove(1);
        Check.due("27: neither is there", z.difference(), -9);
        z.remove(0);
        Check.due("27: only the tape is there", z.difference(), 0);
    }

    private static void effect() {
        AliasStreams x = Check.encoded(A8);
        String before = Check.state(x);
        Check.due("28: the same digit", x.effect(0, 0, 0), 0);
        Check.due("28: the same digit", x.effect(0, 0, 1), 1);
        Check.due("28: digit 0 becomes 5", x.effect(0, 5, 0), 1);
        Check.due("28: digit 0 becomes 5", x.effect(0, 5, 1), 0);
        Check.same("28: it changes nothing", Check.state(x), before);
        x.setDigit(0, 5);
        Check.due("28: digit 0 becomes 0 again", x.effect(0, 0, 1), 1);
        AliasStreams failing = Check.encoded("A2m0199:aa");
        failing.setHead(1, 512);
        Check.due("28: two NONE are alike", failing.effect(0, 7, 0), 0);
    }
}
