import java.util.function.Supplier;

/**
 * The document's part EXCEPTIONS, for all promises that name one: "A call that throws an exception changes nothing."
 * Of two objects made alike, one has its call refused; all that both hold is then compared.
 */
public final class RefusedCallsTest {
    private static final int[] FAR = {Integer.MIN_VALUE, -1, 100, Integer.MAX_VALUE};

    private interface Refused {
        long answer(AliasStreams x);
    }

    public static void main(String[] args) {
        append();
        load();
        whatThereIs();
        setCount();
        insert();
        remove();
        encode();
        decode();
        setDigitHeadAndPlan();
        undo();
        takingAndComparing();
        scriptAndSimulate();
        saveAndRestore();
        Check.finish();
    }

    /**
     * Fourteen states are remembered, so that one more would be seen; slot 0 is used, and the text is another one.
     */
    private static AliasStreams used() {
        AliasStreams x = Check.encoded("A2m0199m0001:ab");
        x.setHead(1, 900);
        x.save(0);
        for (int i = 0; i < 12; i++) {
            x.setHead(0, 1000 + i);
        }
        x.setDigit(0, 3);
        Check.write(x, "A3m010203:c");
        return x;
    }

    private static void refused(String what, String exception, Supplier<AliasStreams> made, Refused call) {
        AliasStreams x = made.get();
        Check.refuses(what, exception, () -> call.answer(x));
        Check.same(what + " is refused: what is held then", Check.everything(x), Check.everything(made.get()));
    }

    private static void refused(String what, String exception, Refused call) {
        refused(what, exception, RefusedCallsTest::used, call);
    }

    /** Promise 2, "A call that throws an exception changes nothing." */
    private static void append() {
        refused("2: code -1", Check.ARGUMENT, x -> x.append(-1));
        refused("2: code 256", Check.ARGUMENT, x -> x.append(256));
        refused("2: code 256 + 'c'", Check.ARGUMENT, x -> x.append(256 + 'c'));
        Supplier<AliasStreams> full = () -> {
            AliasStreams x = new AliasStreams();
            Check.write(x, "A".repeat(100));
            return x;
        };
        refused("2: a full text", Check.STATE, full, x -> x.append('A'));
    }

    /**
     * Promise 5, "A call that throws an exception changes nothing.": not the state, what is remembered, saved, or
     * written.
     */
    private static void load() {
        String[] wrong = {"", "A3", "A3m010203m", "A3m010203m000000", "A3m010203:", "A3m010203:cd", "A3m010203:c1"};
        for (String text : wrong) {
            Supplier<AliasStreams> made = () -> {
                AliasStreams x = used();
                Check.write(x, text);
                return x;
            };
            refused("5: load() of " + text, Check.STATE, made, AliasStreams::load);
        }
    }

    /** Promises 6 to 11, "A call that throws an exception changes nothing." */
    private static void whatThereIs() {
        for (int far : FAR) {
            refused("6: about(" + far + ")", Check.ARGUMENT, x -> x.about(far));
            refused("7: model " + far, Check.INDEX, x -> x.symbol(far, 0, 0));
            refused("7: symbol " + far, Check.INDEX, x -> x.symbol(0, far, 0));
            refused("7: what " + far, Check.ARGUMENT, x -> x.symbol(0, 0, far));
            refused("8: model " + far, Check.INDEX, x -> x.bucket(far, 0, 0));
            refused("8: bucket " + far, Check.INDEX, x -> x.bucket(0, far, 0));
            refused("8: what " + far, Check.ARGUMENT, x -> x.bucket(0, 0, far));
            refused("9: model " + far, Check.INDEX, x -> x.slot(far, 0, 0));
            refused("9: slot " + far, Check.INDEX, x -> x.slot(0, far, 0));
            refused("9: what " + far, Check.ARGUMENT, x -> x.slot(0, 0, far));
            refused("10: item " + far, Check.INDEX, x -> x.item(far));
            refused("11: what " + far, Check.ARGUMENT, x -> x.tape(far, 0));
            refused("11: digit " + far, Check.INDEX, x -> x.tape(0, far));
            refused("11: plan " + far, Check.INDEX, x -> x.tape(1, far));
            refused("11: head " + far, Check.INDEX, x -> x.tape(2, far));
        }
    }

    /** Promise 12, "A call that throws an exception changes nothing." */
    private static void setCount() {
        for (int far : FAR) {
            refused("12: model " + far, Check.INDEX, x -> x.setCount(far, 0, 1));
            refused("12: symbol " + far, Check.INDEX, x -> x.setCount(0, far, 1));
            refused("12: count " + far, Check.ARGUMENT, x -> x.setCount(0, 0, far));
        }
        refused("12: all counts 0", Check.STATE, x -> x.setCount(1, 1, 0));
    }

    private static AliasStreams withFullMessage() {
        AliasStreams x = Check.loaded("A2m0101:" + "ab".repeat(20));
        x.setHead(0, 700);
        return x;
    }

    /** Promise 13, "A call that throws an exception changes nothing." */
    private static void insert() {
        for (int far : FAR) {
            refused("13: place " + far, Check.INDEX, x -> x.insert(far, 0));
            refused("13: item " + far, Check.ARGUMENT, x -> x.insert(0, far));
        }
        refused("13: at the beginning of forty", Check.STATE, RefusedCallsTest::withFullMessage, x -> x.insert(0, 1));
        refused("13: at the end of forty", Check.STATE, RefusedCallsTest::withFullMessage, x -> x.insert(40, 1));
    }

    /** Promise 14, "A call that throws an exception changes nothing." */
    private static void remove() {
        for (int far : FAR) {
            refused("14: item " + far, Check.INDEX, x -> x.remove(far));
        }
        refused("14: item 2 of two", Check.INDEX, x -> x.remove(2));
        refused("14: item 0 of none", Check.INDEX, AliasStreams::new, x -> x.remove(0));
    }

    /**
     * Promise 15, "A call that throws an exception changes nothing.": the tape stays, although some symbols fit.
     */
    private static void encode() {
        Supplier<AliasStreams> unfit = () -> {
            AliasStreams x = used();
            x.insert(0, 11);
            x.setHead(0, 5000);
            return x;
        };
        refused("15: unfit", Check.STATE, unfit, AliasStreams::encode);
    }

    /**
     * Promise 16, "A call that throws an exception changes nothing.": the message stays, although some symbols
     * come.
     */
    private static void decode() {
        Supplier<AliasStreams> failing = () -> {
            AliasStreams x = Check.encoded("A2m0199:bbb");
            x.setHead(1, 512);
            x.remove(0);
            return x;
        };
        refused("16: the tape fails", Check.STATE, failing, AliasStreams::decode);
        Supplier<AliasStreams> long41 = () -> {
            AliasStreams x = Check.encoded("A2m0101m0101:" + "a".repeat(40));
            x.setPlan(39, 1);
            x.remove(0);
            return x;
        };
        refused("16: forty-one items", Check.STATE, long41, AliasStreams::decode);
    }

    /** Promises 17 to 19, "A call that throws an exception changes nothing." */
    private static void setDigitHeadAndPlan() {
        for (int far : FAR) {
            refused("17: digit " + far, Check.INDEX, x -> x.setDigit(far, 0));
            refused("17: value " + far, Check.ARGUMENT, x -> x.setDigit(0, far));
            refused("18: head " + far, Check.INDEX, x -> x.setHead(far, 600));
            refused("18: state " + far, Check.ARGUMENT, x -> x.setHead(0, far));
            refused("19: symbol " + far, Check.INDEX, x -> x.setPlan(far, 0));
            refused("19: model " + far, Check.INDEX, x -> x.setPlan(0, far));
        }
        refused("18: state 511", Check.ARGUMENT, x -> x.setHead(0, 511));
        refused("18: state 8192", Check.ARGUMENT, x -> x.setHead(1, 8192));
    }

    /** Promise 20, "A call that throws an exception changes nothing." */
    private static void undo() {
        Supplier<AliasStreams> restored = () -> {
            AliasStreams x = used();
            x.restore(0);
            return x;
        };
        refused("20: nothing is remembered", Check.STATE, restored, AliasStreams::undo);
        refused("20: a new object", Check.STATE, AliasStreams::new, AliasStreams::undo);
    }

    /** Promises 21 and 24 to 28, "A call that throws an exception changes nothing." */
    private static void takingAndComparing() {
        for (int far : FAR) {
            refused("21: symbol " + far, Check.INDEX, x -> x.taken(far, 0));
            refused("21: what " + far, Check.ARGUMENT, x -> x.taken(0, far));
            refused("24: model " + far, Check.INDEX, x -> x.digitsWith(far));
            refused("25: model " + far, Check.INDEX, x -> x.product(far, 0, 1));
            refused("25: symbol " + far, Check.INDEX, x -> x.product(0, far, 1));
            refused("25: n " + far, Check.ARGUMENT, x -> x.product(0, 0, far));
            refused("26: symbol " + far, Check.INDEX, x -> x.bestModel(far, 1));
            refused("26: n " + far, Check.ARGUMENT, x -> x.bestModel(0, far));
            refused("28: digit " + far, Check.INDEX, x -> x.effect(far, 0, 0));
            refused("28: value " + far, Check.ARGUMENT, x -> x.effect(0, far, 0));
            refused("28: what " + far, Check.ARGUMENT, x -> x.effect(0, 1, far));
        }
    }

    /** Promises 29 and 30, "A call that throws an exception changes nothing." */
    private static void scriptAndSimulate() {
        for (int far : FAR) {
            refused("29: n " + far, Check.ARGUMENT, x -> x.runScript(far, 3000));
            refused("30: m " + far, Check.ARGUMENT, x -> x.simulate(1, far));
        }
        refused("29: a negative script", Check.ARGUMENT, x -> x.runScript(4, -1));
        refused("29: five digits", Check.ARGUMENT, x -> x.runScript(1, 13000));
    }

    /** Promises 31 and 32, "A call that throws an exception changes nothing." */
    private static void saveAndRestore() {
        for (int far : FAR) {
            refused("31: slot " + far, Check.INDEX, x -> x.save(far));
            refused("32: slot " + far, Check.INDEX, x -> x.restore(far));
        }
        refused("31: slot 2", Check.INDEX, x -> x.save(2));
        refused("32: slot 2", Check.INDEX, x -> x.restore(2));
        refused("32: nothing in slot 1", Check.STATE, x -> x.restore(1));
    }
}
