/** The boundary cases of promises 21, 22, 27 and 28 and of taking a tape, a test for each sentence. */
public final class TakingEdgesTest {
    private static final int NONE = AliasStreams.NONE;
    private static final String A8 = "A2m0101:aaaaaaaa";
    private static final String MOST = "A2m0199m0101m0001:" + "a".repeat(40);

    public static void main(String[] args) {
        takeBelowLeastState();
        takeUntilLeastState();
        takeWithSlotAndIndex();
        noDigitLeft();
        takeInTurn();
        takeWithThePlan();
        takeWithTheSlotsOfNow();
        takeOnACopy();
        questionsChangeNothing();
        intactHeads();
        intactDigits();
        intactAndFailing();
        intactWhateverComesOut();
        takenRefuses();
        takenWhat();
        takenAllDigitsCounted();
        takenWhereItFails();
        takenAfterItFails();
        failureNone();
        failureFirst();
        differenceNone();
        differenceOfSymbols();
        differenceOfLengths();
        differenceWhereItFails();
        differenceWhereNeitherIs();
        effectRefuses();
        effectArguments();
        effectOnSymbols();
        effectWhereItFails();
        effectOnIntact();
        effectChangesNothing();
        Check.finish();
    }

    private static void row(String what, AliasStreams x, int k, int... want) {
        for (int i = 0; i < want.length; i++) {
            Check.due(what + ": taken(" + k + ", " + i + ")", x.taken(k, i), want[i]);
        }
    }

    /** Promise 21, Terms "then, as long as x is less than 512": 511 removes a digit, 512 removes none. */
    private static void takeBelowLeastState() {
        AliasStreams x = Check.encoded(A8);
        x.setHead(0, 1019);
        row("21: to 511", x, 0, 0, 1019, 2, 1);
        Check.due("21: then 16 * 511 + 0", x.taken(2, 1), 8176);
        x.setHead(0, 1024);
        row("21: to 512", x, 0, 0, 1024, 2, 0);
        Check.due("21: then 512", x.taken(2, 1), 512);
        x.setHead(0, 1023);
        x.setDigit(1, 15);
        row("21: to 511 from the highest slot", x, 0, 1, 1023, 2, 1);
        Check.due("21: then 16 * 511 + 15", x.taken(2, 1), 8191);
    }

    /**
     * Promise 21, Terms "the last digit is removed from the tape, and x becomes 16 * x + (this digit)", "as long
     * as": again if 511, not if 512.
     */
    private static void takeUntilLeastState() {
        AliasStreams x = Check.encoded("A2m0199:" + "a".repeat(8));
        int last = x.about(4) - 1;
        x.setHead(0, 992);
        x.setDigit(last, 15);
        x.setDigit(last - 1, 7);
        row("21: 31, 511, 8183", x, 0, 0, 992, last + 1, 2);
        Check.due("21: then 16 * 511 + 7", x.taken(2, 1), 8183);
        x.setDigit(last, 0);
        x.setHead(0, 1024);
        row("21: 32, 512", x, 0, 0, 1024, last + 1, 1);
        Check.due("21: then 16 * 32", x.taken(2, 1), 512);
    }

    /**
     * Promise 21, Terms "it is the symbol of slot x % 32; with its frequency f and the index i of this slot, x
     * becomes f * (x / 32) + i".
     */
    private static void takeWithSlotAndIndex() {
        AliasStreams x = Check.encoded("A2m0527:bab");
        int[] states = {8191, 8160, 8167, 4128};
        int[] symbols = {1, 0, 0, 0};
        int[] then = {6911, 1275, 1279, 645};
        for (int i = 0; i < states.length; i++) {
            x.setHead(0, states[i]);
            row("21: from " + states[i], x, 0, symbols[i], states[i], 0, 0);
            Check.due("21: after " + states[i], x.taken(2, 1), then[i]);
        }
    }

    /** Promise 22, Terms "If there is no digit then, the tape fails at this symbol." */
    private static void noDigitLeft() {
        AliasStreams none = Check.encoded("A2m0101:a");
        none.setHead(0, 1019);
        Check.due("22: a digit is needed and none is there", none.failure(), 0);
        none.setHead(0, 1024);
        Check.due("22: none is needed", none.failure(), NONE);
        AliasStreams one = Check.encoded("A2m0199:a");
        one.setHead(0, 992);
        Check.due("22: two are needed and one is there", one.failure(), 0);
        one.setHead(0, 1024);
        Check.due("22: one is needed", one.failure(), NONE);
    }

    /** Promise 21, Terms "symbol k from head k % 2". */
    private static void takeInTurn() {
        AliasStreams x = Check.encoded("A2m0001:bbbb");
        x.setHead(0, 700);
        x.setHead(1, 900);
        for (int k = 0; k < 4; k++) {
            row("21: in turn", x, k, 1, k % 2 == 0 ? 700 : 900, 0, 0);
        }
    }

    /** Promise 21, Terms "with its model in the plan": not that of the message. */
    private static void takeWithThePlan() {
        AliasStreams x = Check.encoded("A2m0101m0001:aa");
        x.setPlan(1, 1);
        Check.same("21: with the plan", Check.takenSymbols(x), "ab");
        x.insert(0, 11);
        Check.same("21: not with the message", Check.takenSymbols(x), "ab");
    }

    /** Promise 21, Terms "(and the frequencies and slots that this model has now)". */
    private static void takeWithTheSlotsOfNow() {
        AliasStreams x = Check.encoded("A2m0101m0101:aab");
        x.setCount(1, 0, 0);
        Check.same("21: another model changes", Check.takenSymbols(x), "aab");
        x.setCount(0, 0, 0);
        Check.same("21: this model changes", Check.takenSymbols(x), "bbb");
        x.undo();
        Check.same("21: and back", Check.takenSymbols(x), "aab");
    }

    /** Promises 6, 21, 22, 27 and 28, Terms "To take the tape means, on a copy of it". */
    private static void takeOnACopy() {
        AliasStreams x = Check.encoded("A2m0199:aaab");
        String before = Check.state(x);
        x.about(6);
        x.taken(0, 3);
        x.failure();
        x.difference();
        x.effect(0, 1, 0);
        Check.same("21: the tape stays", Check.state(x), before);
        Check.refuses("21: no action but encode", Check.STATE, () -> x.undo() + x.undo());
    }

    private static AliasStreams withPast() {
        AliasStreams x = Check.encoded("A2m0199m0101:aab");
        x.save(1);
        x.remove(1);
        x.setHead(0, 992);
        return x;
    }

    /** Promises 21 to 30, Terms "these and all following methods up to the save slots change nothing." */
    private static void questionsChangeNothing() {
        AliasStreams x = withPast();
        x.taken(0, 0);
        x.failure();
        x.unfit();
        x.digitsWith(1);
        x.product(1, 0, 12);
        x.bestModel(0, 12);
        x.difference();
        x.effect(0, 7, 0);
        x.effect(1, 7, 1);
        x.runScript(4, 1001_2000_3000_4000L);
        x.runScript(2, 5700_9000);
        x.simulate(11, 40);
        Check.same("21 to 30: what is held", Check.everything(x), Check.everything(withPast()));
    }

    /** Promise 6, Terms "both heads are 512 then": one of them alone is not enough. */
    private static void intactHeads() {
        for (int h = 0; h < 2; h++) {
            AliasStreams x = new AliasStreams();
            x.setHead(h, 513);
            Check.due("6: head " + h + " of an empty tape", x.about(6), 0);
            x.setHead(h, 8191);
            Check.due("6: head " + h + " of an empty tape", x.about(6), 0);
            x.setHead(h, 512);
            Check.due("6: both are 512", x.about(6), 1);
            AliasStreams y = Check.encoded("A2m0101:ab");
            y.setHead(h, 1056);
            Check.due("6: head " + h + " is 528 then", y.about(6), 0);
        }
        AliasStreams z = Check.encoded("A2m0101:a");
        z.setHead(0, 512);
        Check.due("6: 512 at first, not then", z.about(6), 0);
    }

    /** Promise 6, Terms "and no digits are left." */
    private static void intactDigits() {
        AliasStreams x = Check.encoded("A2m0101m0001:aaaaaaaa");
        for (int k = 0; k < 8; k++) {
            x.setPlan(k, 1);
        }
        Check.due("6: two digits are left, both heads are 512", x.about(6), 0);
        Check.due("6: and it does not fail", x.failure(), NONE);
    }

    /** Promise 6, Terms "The tape is intact if it does not fail". */
    private static void intactAndFailing() {
        AliasStreams x = Check.encoded("A2m0199:b");
        x.setHead(0, 512);
        Check.due("6: it fails, with both heads 512 and no digit", x.about(6), 0);
        Check.due("22: it fails", x.failure(), 0);
        Check.due("6: as encoded", Check.encoded(MOST).about(6), 1);
    }

    /** Promise 6, Terms "The tape is intact if": other symbols than those of the message may come out of it. */
    private static void intactWhateverComesOut() {
        AliasStreams x = Check.encoded("A2m0101:a");
        x.setHead(0, 1028);
        Check.due("6: with another symbol", x.about(6), 1);
        Check.due("27: which differs", x.difference(), 0);
        AliasStreams y = Check.encoded("A2m0101:a");
        y.remove(0);
        Check.due("6: without a message", y.about(6), 1);
    }

    /**
     * Promise 21, "Throws IndexOutOfBoundsException if there is no such symbol of the plan", which is named first.
     */
    private static void takenRefuses() {
        Check.refusesAll("21: k of none", Check.INDEX, 0, -1, k -> Check.loaded(MOST).taken(k, 0));
        Check.range("21: k of one", Check.INDEX, 0, 0, k -> Check.encoded("A2m0101:a").taken(k, 0));
        Check.range("21: k of forty", Check.INDEX, 0, 39, k -> Check.encoded(MOST).taken(k, 3));
        Check.refusesAll("21: k and what", Check.INDEX, 0, 39, k -> Check.encoded(MOST).taken(k, 4));
        AliasStreams x = Check.encoded("A2m0101:aa");
        x.remove(0);
        Check.answers("21: of the plan, not of the message", () -> x.taken(1, 0));
        x.insert(0, 0);
        x.insert(0, 0);
        Check.refuses("21: of the plan, not of the message", Check.INDEX, () -> x.taken(2, 0));
    }

    /** Promise 21, "Throws IllegalArgumentException if what is not 0 to 3". */
    private static void takenWhat() {
        Check.range("21: what", Check.ARGUMENT, 0, 3, what -> Check.encoded(MOST).taken(39, what));
        AliasStreams failing = Check.encoded("A2m0199:bb");
        failing.setHead(0, 512);
        Check.refuses("21: what 4 where it fails", Check.ARGUMENT, () -> failing.taken(0, 4));
        Check.refuses("21: what -1 after that", Check.ARGUMENT, () -> failing.taken(1, -1));
    }

    /**
     * Promise 21, "2: how many digits are left before it is taken; 3: how many digits it removes, all of them
     * counted".
     */
    private static void takenAllDigitsCounted() {
        AliasStreams x = Check.encoded(MOST);
        int[] left = {50, 48, 46, 45, 44, 43, 42, 41, 40, 38};
        int[] removed = {2, 2, 1, 1, 1, 1, 1, 1, 2, 2};
        for (int k = 0; k < left.length; k++) {
            Check.due("21: digits left before " + k, x.taken(k, 2), left[k]);
            Check.due("21: digits removed by " + k, x.taken(k, 3), removed[k]);
        }
        row("21: the last one", x, 39, 0, 1024, 1, 1);
        row("21: none is removed", Check.encoded("A2m0101:a"), 0, 0, 1024, 0, 0);
    }

    /**
     * Promise 21, "NONE if the tape fails at this symbol", "(the numbers 1 and 2 are told for the symbol at which
     * it fails)."
     */
    private static void takenWhereItFails() {
        AliasStreams one = Check.encoded("A2m0199:a");
        one.setHead(0, 992);
        row("21: one digit of two", one, 0, NONE, 992, 1, NONE);
        AliasStreams none = Check.encoded("A2m0199:bb");
        none.setHead(1, 512);
        row("21: before it", none, 0, 1, none.tape(2, 0), 0, 0);
        row("21: no digit", none, 1, NONE, 512, 0, NONE);
    }

    /** Promise 21, "or before": nothing is told after the symbol at which it fails. */
    private static void takenAfterItFails() {
        AliasStreams x = Check.encoded("A2m0199:" + "b".repeat(40));
        x.setHead(0, 512);
        for (int k = 1; k < 40; k++) {
            row("21: after the failure", x, k, NONE, NONE, NONE, NONE);
        }
    }

    /** Promise 22, "NONE if it does not." */
    private static void failureNone() {
        Check.due("22: a new object", new AliasStreams().failure(), NONE);
        Check.due("22: a message, but no tape", Check.loaded(MOST).failure(), NONE);
        Check.due("22: as encoded", Check.encoded(MOST).failure(), NONE);
        AliasStreams x = new AliasStreams();
        x.setHead(0, 8191);
        Check.due("22: no symbol to fail at", x.failure(), NONE);
        AliasStreams y = Check.encoded("A2m0101:a");
        y.setHead(0, 8191);
        Check.due("22: not intact, but not failing", y.failure(), NONE);
    }

    /** Promise 22, "Returns the symbol of the plan at which the tape fails". */
    private static void failureFirst() {
        AliasStreams first = Check.encoded("A2m0199:" + "b".repeat(40));
        first.setHead(0, 512);
        first.setHead(1, 512);
        Check.due("22: the first one", first.failure(), 0);
        AliasStreams second = Check.encoded("A2m0199:" + "b".repeat(40));
        second.setHead(1, 512);
        Check.due("22: the second one", second.failure(), 1);
        AliasStreams last = Check.encoded("A2m0001m0199:" + "b".repeat(40));
        last.setPlan(39, 1);
        Check.due("22: the last one", last.failure(), 39);
    }

    /** Promise 27, "NONE if there is none." */
    private static void differenceNone() {
        Check.due("27: nothing on both sides", new AliasStreams().difference(), NONE);
        Check.due("27: changes alone", Check.loaded("A2m0101:00").difference(), NONE);
        Check.due("27: as encoded", Check.encoded(MOST).difference(), NONE);
        AliasStreams x = Check.encoded("A2m0101m0101:ab");
        x.insert(1, 11);
        Check.due("27: a change is no difference", x.difference(), NONE);
        x.setPlan(1, 1);
        Check.due("27: nor is another plan", x.difference(), NONE);
    }

    /**
     * Promise 27, "Returns the first k for which symbol k, when the tape is taken, is not symbol k of the
     * message".
     */
    private static void differenceOfSymbols() {
        int[] places = {0, 1, 20, 39};
        for (int k : places) {
            AliasStreams x = Check.encoded("A2m0101:" + "a".repeat(40));
            x.remove(k);
            x.insert(k, 1);
            Check.due("27: another symbol", x.difference(), k);
        }
        AliasStreams two = Check.encoded("A2m0101:aaaa");
        two.remove(1);
        two.insert(1, 1);
        two.remove(3);
        two.insert(3, 1);
        Check.due("27: the first of two", two.difference(), 1);
    }

    /** Promise 27, "(also if only one of them is there, since", "one of them has fewer symbols". */
    private static void differenceOfLengths() {
        Check.due("27: no tape", Check.loaded("A2m0101:a").difference(), 0);
        Check.due("27: no tape after a change", Check.loaded("A2m0101:0a").difference(), 0);
        AliasStreams x = Check.encoded("A2m0101:" + "a".repeat(39));
        x.insert(39, 0);
        Check.due("27: the message has one more", x.difference(), 39);
        x.encode();
        x.remove(39);
        Check.due("27: the tape has one more", x.difference(), 39);
        for (int i = 38; i >= 0; i--) {
            x.remove(i);
        }
        Check.due("27: no message", x.difference(), 0);
    }

    /** Promise 27, "since the tape fails there or before". */
    private static void differenceWhereItFails() {
        AliasStreams x = Check.encoded("A2m0199:bbbb");
        x.setHead(1, 512);
        Check.due("27: it fails at 1", x.difference(), 1);
        x.setHead(0, 512);
        Check.due("27: it fails at 0", x.difference(), 0);
    }

    /** Promise 27, "where neither is there, there is no difference". */
    private static void differenceWhereNeitherIs() {
        AliasStreams x = Check.encoded("A2m0199:bbbb");
        x.setHead(1, 512);
        x.remove(3);
        x.remove(2);
        Check.due("27: the message goes to where it fails", x.difference(), 1);
        x.remove(1);
        Check.due("27: the message ends before", x.difference(), NONE);
        x.remove(0);
        Check.due("27: symbol 0 of the tape alone", x.difference(), 0);
        x.setHead(0, 512);
        Check.due("27: neither has any", x.difference(), NONE);
    }

    /** Promise 28, "Throws IndexOutOfBoundsException if there is no such digit", which is named first. */
    private static void effectRefuses() {
        Check.refusesAll("28: k of none", Check.INDEX, 0, -1, k -> Check.encoded("A2m0101:a").effect(k, 0, 0));
        Check.range("28: k of one", Check.INDEX, 0, 0, k -> Check.encoded("A2m0199:a").effect(k, 0, 0));
        Check.range("28: k of fifty", Check.INDEX, 0, 49, k -> Check.encoded(MOST).effect(k, 0, 1));
        Check.refusesAll("28: k and v", Check.INDEX, 0, 49, k -> Check.encoded(MOST).effect(k, 16, 0));
        Check.refusesAll("28: k and what", Check.INDEX, 0, 49, k -> Check.encoded(MOST).effect(k, 0, 2));
    }

    /** Promise 28, "Throws IllegalArgumentException if v is out of range, or what is not 0 or 1". */
    private static void effectArguments() {
        Check.range("28: v", Check.ARGUMENT, 0, 15, v -> Check.encoded(MOST).effect(49, v, 0));
        Check.range("28: what", Check.ARGUMENT, 0, 1, what -> Check.encoded(MOST).effect(49, 0, what));
        Check.refuses("28: both", Check.ARGUMENT, () -> Check.encoded(MOST).effect(0, 16, 2));
    }

    /** Promise 28, "0: the number of symbols of the plan that would be taken otherwise than now". */
    private static void effectOnSymbols() {
        AliasStreams x = Check.encoded(A8);
        for (int v = 0; v < 16; v++) {
            AliasStreams y = Check.encoded(A8);
            y.setDigit(0, v);
            int others = 0;
            for (int k = 0; k < 8; k++) {
                others += y.taken(k, 0) == 0 ? 0 : 1;
            }
            Check.due("28: digit 0 becomes " + v, x.effect(0, v, 0), others);
        }
        Check.due("28: the same digit", x.effect(1, 0, 0), 0);
        Check.due("28: the last of forty symbols", Check.encoded("A2m0101:" + "a".repeat(40)).effect(2, 1, 0), 1);
        Check.due("28: digit 0 becomes 5", x.effect(0, 5, 0), 1);
        x.remove(3);
        Check.due("28: the message is no matter", x.effect(0, 5, 0), 1);
        x.setDigit(0, 5);
        Check.due("28: otherwise than now", x.effect(0, 5, 0), 0);
        Check.due("28: otherwise than now", x.effect(0, 0, 0), 1);
    }

    /** Promise 28, "(where the tape fails, symbols from there on are NONE, and two NONE are alike)". */
    private static void effectWhereItFails() {
        AliasStreams always = Check.encoded("A2m0199:aa");
        always.setHead(1, 512);
        for (int v = 0; v < 16; v++) {
            Check.due("28: it fails now and then", always.effect(0, v, 0), 0);
        }
        AliasStreams x = Check.encoded("A2m0199m0001:aba1bb");
        x.setPlan(1, 1);
        x.setHead(0, 512);
        Check.due("28: it fails now", x.failure(), 2);
        for (int v = 0; v < 16; v++) {
            Check.due("28: it fails now, not with " + v, x.effect(0, v, 0), v == 0 ? 0 : 3);
        }
        x.setDigit(0, 7);
        for (int v = 0; v < 16; v++) {
            Check.due("28: it would fail with 0, and with " + v, x.effect(0, v, 0), v == 0 ? 3 : 0);
            Check.due("28: not intact with " + v, x.effect(0, v, 1), 0);
        }
    }

    /** Promise 28, "1: 1 if the tape would be intact, 0 if not". */
    private static void effectOnIntact() {
        AliasStreams x = Check.encoded(A8);
        for (int v = 0; v < 16; v++) {
            Check.due("28: intact with " + v, x.effect(1, v, 1), v % 4 == 0 ? 1 : 0);
        }
        x.setDigit(1, 9);
        for (int v = 0; v < 16; v++) {
            Check.due("28: intact again with " + v, x.effect(1, v, 1), v % 4 == 0 ? 1 : 0);
        }
    }

    /** Promise 28, "Tells what changing a digit would do": it does not change it. */
    private static void effectChangesNothing() {
        AliasStreams x = Check.encoded(A8);
        String before = Check.state(x);
        x.effect(0, 15, 0);
        x.effect(1, 15, 1);
        Check.same("28: the state", Check.state(x), before);
        Check.due("28: no action", x.undo(), 0);
    }
}
