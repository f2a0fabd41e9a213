/** Promises 6 to 9 and 12 on ordinary inputs: about, symbol, bucket, slot, setCount. */
public final class ModelsTest {
    public static void main(String[] args) {
        about();
        frequencies();
        symbol();
        bucket();
        slot();
        everySlot();
        setCount();
        Check.finish();
    }

    private static void about() {
        AliasStreams x = Check.encoded("A3m010101m010001:aab0c1aaaaaaaa");
        int[] want = {3, 2, 14, 12, x.about(4), 12, 1};
        for (int what = 0; what < want.length; what++) {
            Check.due("6: about(" + what + ")", x.about(what), want[what]);
        }
        Check.due("6: the digits", x.about(4), Check.digits(x).length());
        AliasStreams one = Check.encoded("A2m0101:a");
        one.setHead(0, 1025);
        Check.due("6: no longer intact", one.about(6), 0);
        one.undo();
        Check.due("6: intact again", one.about(6), 1);
        one.setHead(0, 1028);
        Check.due("6: intact, with another symbol", one.about(6), 1);
        AliasStreams sure = Check.encoded("A2m0101m0001:aaaaaaaa");
        for (int k = 0; k < 8; k++) {
            sure.setPlan(k, 1);
        }
        Check.due("6: not intact, since digits are left", sure.about(6), 0);
        AliasStreams y = new AliasStreams();
        y.setHead(0, 513);
        Check.due("6: head 0 of an empty tape counts", y.about(6), 0);
        y.undo();
        y.setHead(1, 8191);
        Check.due("6: head 1 of an empty tape counts", y.about(6), 0);
    }

    private static void frequency(String model, int... want) {
        AliasStreams x = Check.loaded("A" + want.length + "m" + model);
        for (int s = 0; s < want.length; s++) {
            Check.due("7: frequency " + s + " of " + model, x.symbol(0, s, 1), want[s]);
            Check.due("7: count " + s + " of " + model, x.symbol(0, s, 0),
                    Integer.parseInt(model.substring(2 * s, 2 * s + 2)));
        }
    }

    private static void frequencies() {
        frequency("0101", 16, 16);
        frequency("0001", 0, 32);
        frequency("0199", 1, 31);
        frequency("010101", 11, 11, 10);
        frequency("010203", 5, 11, 16);
        frequency("0000010001", 0, 0, 16, 0, 16);
        frequency("0102030405060708", 2, 2, 3, 3, 4, 5, 6, 7);
        frequency("9901010101010101", 25, 1, 1, 1, 1, 1, 1, 1);
        frequency("99990101010101", 14, 13, 1, 1, 1, 1, 1);
        frequency("9999999901010101", 7, 7, 7, 7, 1, 1, 1, 1);
        frequency("9999999999999999", 4, 4, 4, 4, 4, 4, 4, 4);
    }

    private static void symbol() {
        AliasStreams x = Check.loaded("A3m010203m990001");
        Check.due("7: the other model's count", x.symbol(1, 0, 0), 99);
        Check.due("7: the other model's frequency", x.symbol(1, 2, 1), 1);
    }

    private static void bucket() {
        AliasStreams x = new AliasStreams();
        int[] rests = {4, 4, 0, 0, 0, 0, 0, 0};
        int[] aliases = {-9, -9, 0, 1, 0, 1, 0, 1};
        for (int b = 0; b < 8; b++) {
            Check.due("8: rest of bucket " + b, x.bucket(0, b, 0), rests[b]);
            Check.due("8: alias of bucket " + b, x.bucket(0, b, 1), aliases[b]);
        }
    }

    private static void slot() {
        AliasStreams x = new AliasStreams();
        for (int k = 0; k < 32; k++) {
            Check.due("9: symbol of slot " + k, x.slot(0, k, 0), k / 4 % 2);
            Check.due("9: index of slot " + k, x.slot(0, k, 1), k / 8 * 4 + k % 4);
        }
    }

    /** A symbol has as many slots as its frequency, indexed in their order, for many models. */
    private static void everySlot() {
        String[] samples = {"00", "01", "02", "07", "33", "99"};
        for (int i = 1; i < 6 * 6 * 6 * 6; i++) {
            String half = samples[i % 6] + samples[i / 6 % 6];
            slotsMatch(Check.loaded("A4m" + half + samples[i / 36 % 6] + samples[i / 216]));
        }
    }

    private static void slotsMatch(AliasStreams x) {
        int[] seen = new int[8];
        for (int k = 0; k < 32; k++) {
            int s = x.slot(0, k, 0);
            Check.due("9: index of slot " + k, x.slot(0, k, 1), seen[s]++);
            int b = k / 4;
            Check.due("8: symbol of slot " + k, s, k % 4 < x.bucket(0, b, 0) ? b : x.bucket(0, b, 1));
        }
        for (int s = 0; s < 4; s++) {
            Check.due("9: slots of symbol " + s, seen[s], x.symbol(0, s, 1));
        }
    }

    private static void setCount() {
        AliasStreams x = Check.loaded("A2m0101m0203:ab");
        x.encode();
        Check.due("12: setCount(0, 1, 0)", x.setCount(0, 1, 0), 1);
        Check.due("12: the new frequency", x.symbol(0, 0, 1), 32);
        Check.due("12: the slots are made anew", x.slot(0, 31, 1), 31);
        Check.due("12: the buckets are made anew", x.bucket(0, 1, 1), 0);
        Check.due("12: the other model stays", x.symbol(1, 0, 1), 13);
        Check.due("12: setCount(1, 1, 99)", x.setCount(1, 1, 99), 3);
        Check.due("12: setCount(1, 1, 99) again", x.setCount(1, 1, 99), 99);
        Check.same("12: the tape stays, the message too", Check.state(x), "1/32 0/0 |2/1 99/31 |ab||00|1024 1028");
        Check.same("12: the tape is taken with the new slots", Check.takenSymbols(x), "aa");
        Check.due("12: each is an action", x.undo(), 3);
        Check.due("12: each is an action", x.undo(), 2);
        Check.due("12: each is an action", x.undo(), 1);
        Check.due("12: undo makes the frequencies anew", x.symbol(0, 0, 1), 16);
        Check.due("12: undo makes the slots anew", x.slot(0, 31, 0), 1);
    }
}
