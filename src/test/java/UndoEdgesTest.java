/** The boundary cases of promises 20, 31 and 32 and of ACTIONS AND UNDO, a test for each sentence. */
public final class UndoEdgesTest {
    private static final String TEXT = "A2m0101m0102:ab";

    public static void main(String[] args) {
        undoNothing();
        undoAnswers();
        fourteenStates();
        oldestIsForgotten();
        fullAgainAfterUndo();
        eachActionIsRemembered();
        actionsThatChangeNothing();
        undoIsNoAction();
        wholeStateComesBack();
        lastCountItemAndPlanComeBack();
        textIsNotPartOfTheState();
        saveSlotsAreNotPartOfTheState();
        otherCallsAreNoActions();
        refusedCallsAreNoActions();
        saveSlots();
        saveAnswers();
        savedStateStays();
        saveReplaces();
        restoreSlots();
        restoreNothing();
        restoreSinceLoad();
        restoreAnswers();
        restoreReplacesTheState();
        restoreForgets();
        saveSlotKeepsIt();
        fiveHundredTwelveCalls();
        Check.finish();
    }

    /** Promise 20, "Throws IllegalStateException if none is remembered". */
    private static void undoNothing() {
        AliasStreams x = new AliasStreams();
        Check.refuses("20: a new object", Check.STATE, x::undo);
        x.setHead(0, 600);
        Check.due("20: the only one", x.undo(), 0);
        Check.refuses("20: none is left", Check.STATE, x::undo);
        Check.refuses("20: asked again", Check.STATE, x::undo);
        x.setHead(0, 700);
        Check.due("20: the next one", x.undo(), 0);
        Check.due("20: the head", x.tape(2, 0), 512);
    }

    private static AliasStreams withHeads(int actions) {
        AliasStreams x = new AliasStreams();
        for (int i = 1; i <= actions; i++) {
            x.setHead(0, 1000 + i);
        }
        return x;
    }

    /**
     * Promise 20, "Takes back the last action that is remembered.", "Returns how many states are still
     * remembered."
     */
    private static void undoAnswers() {
        for (int actions = 1; actions <= 13; actions++) {
            AliasStreams x = withHeads(actions);
            for (int left = actions - 1; left >= 0; left--) {
                Check.due("20: states left", x.undo(), left);
                Check.due("20: the head", x.tape(2, 0), left == 0 ? 512 : 1000 + left);
            }
            Check.refuses("20: none is left", Check.STATE, x::undo);
        }
    }

    /** Promise 20, Terms "At most 14 states are remembered". */
    private static void fourteenStates() {
        AliasStreams x = withHeads(14);
        for (int left = 13; left >= 0; left--) {
            Check.due("20: of fourteen", x.undo(), left);
        }
        Check.due("20: the first state of all", x.tape(2, 0), 512);
        Check.refuses("20: none is left", Check.STATE, x::undo);
    }

    /** Promise 20, Terms "when one more is remembered, the oldest one is forgotten." */
    private static void oldestIsForgotten() {
        int[] numbers = {15, 16, 27, 28, 29, 43, 100};
        for (int actions : numbers) {
            AliasStreams x = withHeads(actions);
            for (int left = 13; left >= 0; left--) {
                Check.due("20: of " + actions, x.undo(), left);
                Check.due("20: the head", x.tape(2, 0), 1000 + actions - 14 + left);
            }
            Check.refuses("20: the older ones are forgotten", Check.STATE, x::undo);
            Check.due("20: the head stays", x.tape(2, 0), 1000 + actions - 14);
        }
    }

    /** Promise 20, Terms "At most 14 states are remembered": after some were taken back, too. */
    private static void fullAgainAfterUndo() {
        AliasStreams x = withHeads(20);
        for (int i = 0; i < 5; i++) {
            x.undo();
        }
        for (int i = 0; i < 7; i++) {
            x.setHead(0, 2000 + i);
        }
        Check.due("20: full again", x.undo(), 13);
        for (int left = 12; left >= 0; left--) {
            Check.due("20: states left", x.undo(), left);
        }
        Check.due("20: the oldest one", x.tape(2, 0), 1008);
    }

    /**
     * Promise 20, Terms "Each call of one of them that does not throw an exception is an action", "Before each
     * action, the state is remembered."
     */
    private static void eachActionIsRemembered() {
        AliasStreams x = Check.encoded(TEXT);
        Check.due("20: encode", x.undo(), 0);
        x.setCount(0, 0, 5);
        Check.due("20: setCount", x.undo(), 0);
        x.insert(2, 0);
        Check.due("20: insert", x.undo(), 0);
        x.remove(0);
        Check.due("20: remove", x.undo(), 0);
        x.decode();
        Check.due("20: decode", x.undo(), 0);
        x.setHead(1, 600);
        Check.due("20: setHead", x.undo(), 0);
        Check.same("20: all taken back", Check.state(x), "1/16 1/16 |1/11 2/21 |ab|||512 512");
        AliasStreams tape = Check.encoded("A2m0199m0101:a");
        tape.setDigit(0, 5);
        Check.due("20: setDigit", tape.undo(), 1);
        tape.setPlan(0, 1);
        Check.due("20: setPlan", tape.undo(), 1);
        Check.same("20: all taken back", Check.digits(tape) + Check.plan(tape), "00");
    }

    /** Promise 20, Terms "also if nothing becomes different". */
    private static void actionsThatChangeNothing() {
        AliasStreams x = Check.encoded("A2m0199m0101:a");
        x.encode();
        Check.due("20: encode", x.undo(), 1);
        x.decode();
        Check.due("20: decode", x.undo(), 1);
        x.setCount(0, 1, 99);
        Check.due("20: setCount", x.undo(), 1);
        x.setDigit(0, 0);
        Check.due("20: setDigit", x.undo(), 1);
        x.setHead(1, 512);
        Check.due("20: setHead", x.undo(), 1);
        x.setPlan(0, 0);
        Check.due("20: setPlan", x.undo(), 1);
    }

    /** Promise 20, Terms "(undo is none)". */
    private static void undoIsNoAction() {
        AliasStreams x = withHeads(3);
        Check.due("20: the third", x.undo(), 2);
        Check.due("20: the second, not the third again", x.undo(), 1);
        Check.due("20: the head", x.tape(2, 0), 1001);
        x.setHead(0, 3000);
        Check.due("20: back to the first", x.undo(), 1);
        Check.due("20: the head", x.tape(2, 0), 1001);
    }

    /** Promise 20, Terms "the state, which consists of the counts, the message and the tape." */
    private static void wholeStateComesBack() {
        AliasStreams x = Check.encoded("A2m0199m0101:ab1ab");
        x.setHead(0, 700);
        x.setDigit(0, 9);
        String before = Check.state(x);
        String slots = x.slot(0, 0, 0) + " " + x.slot(0, 31, 1) + " " + x.bucket(0, 0, 0) + " " + x.bucket(0, 1, 1);
        x.setCount(0, 0, 99);
        x.setCount(1, 1, 5);
        x.remove(0);
        x.remove(0);
        x.remove(1);
        x.encode();
        x.setHead(1, 8000);
        for (int i = 0; i < 7; i++) {
            x.undo();
        }
        Check.same("20: counts, message and tape", Check.state(x), before);
        Check.same("20: slots and buckets",
            x.slot(0, 0, 0) + " " + x.slot(0, 31, 1) + " " + x.bucket(0, 0, 0) + " " + x.bucket(0, 1, 1), slots);
    }

    /**
     * Promises 20, 31 and 32, Terms "the counts, the message and the tape": also the last of as many as there can
     * be.
     */
    private static void lastCountItemAndPlanComeBack() {
        AliasStreams x = Check.loaded("A8" + "m0101010101010101".repeat(3) + ":" + "h".repeat(40));
        x.encode();
        x.save(1);
        x.setCount(2, 7, 50);
        x.remove(39);
        x.insert(39, 0);
        x.setPlan(39, 2);
        for (int left = 4; left >= 1; left--) {
            Check.due("20: states left", x.undo(), left);
        }
        lastOnes("20", x);
        x.setCount(2, 7, 50);
        x.remove(39);
        x.insert(39, 0);
        x.setPlan(39, 2);
        x.restore(1);
        lastOnes("32", x);
    }

    private static void lastOnes(String promise, AliasStreams x) {
        Check.due(promise + ": the last count", x.symbol(2, 7, 0), 1);
        Check.due(promise + ": the last item", x.item(39), 7);
        Check.due(promise + ": the last model of the plan", x.tape(1, 39), 0);
    }

    /** Promise 20, Terms "The text and the save slots are not part of the state.": the text. */
    private static void textIsNotPartOfTheState() {
        AliasStreams x = withHeads(1);
        Check.write(x, "A2m0101:aaa");
        x.undo();
        Check.due("20: the text stays", x.clearText(), 11);
        AliasStreams y = new AliasStreams();
        Check.write(y, "A2m0101:aaa");
        y.save(0);
        y.clearText();
        y.restore(0);
        Check.due("32: the text stays", y.clearText(), 0);
    }

    /** Promise 20, Terms "The text and the save slots are not part of the state.": the save slots. */
    private static void saveSlotsAreNotPartOfTheState() {
        AliasStreams x = withHeads(2);
        x.save(0);
        x.undo();
        x.undo();
        Check.due("20: slot 0 is still there", x.restore(0), 0);
        Check.due("20: as it was saved", x.tape(2, 0), 1002);
        x.setHead(0, 2000);
        x.save(1);
        x.restore(0);
        Check.due("32: slot 1 is still there", x.restore(1), 0);
        Check.due("32: as it was saved", x.tape(2, 0), 2000);
    }

    /**
     * Promise 20, Terms "The methods in the section "actions" change the state": all other methods are no actions.
     */
    private static void otherCallsAreNoActions() {
        AliasStreams x = Check.encoded("A2m0199m0101:ab");
        x.append('a');
        x.errorPosition();
        x.clearText();
        for (int what = 0; what < 7; what++) {
            x.about(what);
        }
        x.symbol(0, 0, 0);
        x.bucket(0, 0, 0);
        x.slot(0, 0, 0);
        x.item(0);
        x.tape(2, 0);
        x.taken(0, 0);
        x.failure();
        x.unfit();
        x.digitsWith(0);
        x.product(0, 0, 1);
        x.bestModel(0, 1);
        x.difference();
        x.effect(0, 0, 0);
        x.runScript(4, 2000_3000_4000_5000L);
        x.simulate(1, 40);
        x.save(0);
        Check.due("20: encode alone", x.undo(), 0);
        Check.due("20: is taken back", x.about(5), 0);
    }

    /** Promise 20, Terms "that does not throw an exception": a refused call is remembered by no state. */
    private static void refusedCallsAreNoActions() {
        AliasStreams x = Check.encoded("A2m0199m0001:a");
        x.insert(0, 11);
        Check.refuses("12", Check.STATE, () -> x.setCount(1, 1, 0));
        Check.refuses("13", Check.ARGUMENT, () -> x.insert(0, 2));
        Check.refuses("14", Check.INDEX, () -> x.remove(2));
        Check.refuses("15", Check.STATE, x::encode);
        Check.refuses("17", Check.ARGUMENT, () -> x.setDigit(0, 16));
        Check.refuses("18", Check.ARGUMENT, () -> x.setHead(0, 511));
        Check.refuses("19", Check.INDEX, () -> x.setPlan(0, 2));
        Check.due("20: insert is the last action", x.undo(), 1);
        Check.due("20: and encode the one before", x.undo(), 0);
        AliasStreams failing = Check.encoded("A2m0199:b");
        failing.setHead(0, 512);
        Check.refuses("16", Check.STATE, failing::decode);
        Check.due("20: setHead is the last action", failing.undo(), 1);
    }

    /** Promise 31, "slot: 0 or 1", "Throws IndexOutOfBoundsException if there is no such save slot". */
    private static void saveSlots() {
        Check.range("31: slot", Check.INDEX, 0, 1, slot -> new AliasStreams().save(slot));
    }

    /** Promise 31, "Returns the number of items of the message." */
    private static void saveAnswers() {
        Check.due("31: none", new AliasStreams().save(0), 0);
        Check.due("31: two and a change", Check.loaded("A2m0101:a0b").save(1), 3);
        Check.due("31: forty", Check.loaded("A2m0101:" + "a0".repeat(20)).save(1), 40);
    }

    /** Promise 31, "Stores the present state in a save slot.": later actions do not reach it. */
    private static void savedStateStays() {
        AliasStreams x = Check.encoded("A2m0199m0101:aab");
        String saved = Check.state(x);
        x.save(0);
        x.setCount(0, 0, 50);
        x.remove(0);
        x.setDigit(0, 7);
        x.setPlan(0, 1);
        x.setHead(0, 800);
        x.setHead(1, 900);
        x.encode();
        x.restore(0);
        Check.same("31: the saved state", Check.state(x), saved);
        Check.due("31: its slots", x.slot(0, 1, 0), 1);
    }

    /**
     * Promise 31, "Stores the present state in a save slot.": in place of the one that was there, and only there.
     */
    private static void saveReplaces() {
        AliasStreams x = new AliasStreams();
        x.save(0);
        x.insert(0, 1);
        x.save(1);
        x.insert(0, 1);
        x.save(0);
        Check.due("31: slot 1 keeps its own", x.restore(1), 1);
        Check.due("31: slot 0 has the later one", x.restore(0), 2);
    }

    /**
     * Promise 32, "slot: 0 or 1", "Throws IndexOutOfBoundsException if there is no such save slot", which is named
     * first.
     */
    private static void restoreSlots() {
        Check.range("32: slot", Check.INDEX, 0, 1, slot -> {
            AliasStreams x = new AliasStreams();
            x.save(0);
            x.save(1);
            return x.restore(slot);
        });
        Check.refusesAll("32: slot, nothing saved", Check.INDEX, 0, 1, slot -> new AliasStreams().restore(slot));
    }

    /** Promise 32, "Throws IllegalStateException if nothing has been saved in it". */
    private static void restoreNothing() {
        for (int slot = 0; slot < 2; slot++) {
            int used = slot;
            AliasStreams x = new AliasStreams();
            Check.refuses("32: nothing in " + used, Check.STATE, () -> x.restore(used));
            x.save(1 - used);
            Check.refuses("32: something in the other one alone", Check.STATE, () -> x.restore(used));
            x.save(used);
            Check.due("32: now in both", x.restore(used), 0);
        }
    }

    /** Promise 32, "since the last load": what was saved before it is gone, a load that is refused is none. */
    private static void restoreSinceLoad() {
        AliasStreams x = Check.loaded(TEXT);
        x.save(0);
        x.save(1);
        Check.write(x, "A2m0101:");
        Check.refuses("5: a wrong text", Check.STATE, x::load);
        Check.due("32: still there", x.restore(0), 2);
        Check.write(x, TEXT);
        x.load();
        Check.refuses("32: gone from 0", Check.STATE, () -> x.restore(0));
        Check.refuses("32: gone from 1", Check.STATE, () -> x.restore(1));
        x.save(1);
        Check.due("32: saved since", x.restore(1), 2);
        Check.refuses("32: not in 0", Check.STATE, () -> x.restore(0));
    }

    /** Promise 32, "Returns the number of items of the message then." */
    private static void restoreAnswers() {
        AliasStreams x = Check.loaded("A2m0101:" + "a0".repeat(20));
        x.save(0);
        x.decode();
        x.save(1);
        Check.due("32: forty", x.restore(0), 40);
        Check.due("32: none", x.restore(1), 0);
    }

    /**
     * Promise 32, "Replaces the state by the one in a save slot": also the frequencies and slots that follow from
     * it.
     */
    private static void restoreReplacesTheState() {
        AliasStreams x = Check.encoded("A2m0101m0101:ab");
        x.save(0);
        x.setCount(1, 0, 0);
        x.restore(0);
        Check.same("32: the state", Check.state(x), "1/16 1/16 |1/16 1/16 |ab||00|1024 1028");
        Check.due("32: a slot", x.slot(1, 0, 0), 0);
        Check.due("32: an alias", x.bucket(1, 2, 1), 0);
        Check.due("32: it encodes with them", x.digitsWith(1), 0);
    }

    /** Promise 32, "and forgets all remembered states."; Terms "load and restore are not actions." */
    private static void restoreForgets() {
        AliasStreams x = withHeads(14);
        x.save(0);
        x.restore(0);
        Check.refuses("32: all are forgotten", Check.STATE, x::undo);
        x.setHead(0, 5000);
        Check.due("32: the next action is the only one", x.undo(), 0);
        Check.due("32: and leads to what was restored", x.tape(2, 0), 1014);
    }

    /** Promise 32, "The save slot keeps it." */
    private static void saveSlotKeepsIt() {
        AliasStreams x = Check.encoded("A2m0199:a");
        x.save(1);
        for (int i = 0; i < 3; i++) {
            Check.due("32: restored", x.restore(1), 1);
            Check.same("32: the tape", Check.digits(x) + " " + x.tape(2, 0), "0 1024");
            x.setDigit(0, 5);
            x.setHead(0, 600);
            x.remove(0);
        }
    }

    /**
     * All promises, "An object is used for at most 512 calls after it has been made": the last of them answers
     * like the first.
     */
    private static void fiveHundredTwelveCalls() {
        AliasStreams x = new AliasStreams();
        for (int call = 1; call <= 498; call++) {
            x.setHead(0, 1000 + call);
        }
        for (int left = 13; left >= 0; left--) {
            Check.due("20: calls 499 to 512", x.undo(), left);
        }
    }
}
