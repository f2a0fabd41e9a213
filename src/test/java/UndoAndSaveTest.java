/** Promises 20, 31 and 32 on ordinary inputs: undo, save, restore. */
public final class UndoAndSaveTest {
    public static void main(String[] args) {
        undo();
        undoEveryAction();
        save();
        restore();
        Check.finish();
    }

    private static void undo() {
        AliasStreams x = new AliasStreams();
        x.insert(0, 0);
        x.insert(1, 1);
        Check.due("20: undo()", x.undo(), 1);
        Check.same("20: the message", Check.message(x), "a");
        x.insert(0, 1);
        Check.due("20: undo() is no action", x.undo(), 1);
        Check.due("20: undo() again", x.undo(), 0);
        Check.same("20: the message", Check.message(x), "");
    }

    private static void undoEveryAction() {
        AliasStreams x = Check.loaded("A2m0101m0102:b1bb");
        String[] states = new String[8];
        states[0] = Check.state(x);
        x.setCount(1, 0, 99);
        states[1] = Check.state(x);
        x.insert(3, 0);
        states[2] = Check.state(x);
        x.encode();
        states[3] = Check.state(x);
        x.remove(0);
        states[4] = Check.state(x);
        x.decode();
        states[5] = Check.state(x);
        x.setDigit(0, (x.tape(0, 0) + 1) % 16);
        states[6] = Check.state(x);
        x.setHead(1, 4000);
        states[7] = Check.state(x);
        x.setPlan(0, 1);
        for (int i = 7; i >= 0; i--) {
            Check.due("20: states left", x.undo(), i);
            Check.same("20: the state after undo", Check.state(x), states[i]);
        }
    }

    private static void save() {
        AliasStreams x = Check.encoded("A2m0101:bbb");
        x.setHead(0, 777);
        x.setCount(0, 0, 3);
        String saved = Check.state(x);
        Check.due("31: save(0)", x.save(0), 3);
        x.remove(0);
        Check.due("31: save(1)", x.save(1), 2);
        x.encode();
        x.setCount(0, 0, 9);
        x.setHead(0, 513);
        Check.due("32: restore(0)", x.restore(0), 3);
        Check.same("32: the state", Check.state(x), saved);
        Check.due("32: restore(1)", x.restore(1), 2);
        Check.due("31: saving again replaces", x.save(0), 2);
        Check.due("31: saving again replaces", x.restore(0), 2);
    }

    private static void restore() {
        AliasStreams x = Check.loaded("A2m0101:ab");
        x.save(1);
        x.setCount(0, 0, 99);
        Check.due("32: restore(1)", x.restore(1), 2);
        Check.due("32: makes the frequencies anew", x.symbol(0, 0, 1), 16);
        Check.due("32: makes the slots anew", x.slot(0, 4, 0), 1);
        x.insert(0, 0);
        Check.due("32: the slot keeps its state", x.restore(1), 2);
    }
}
