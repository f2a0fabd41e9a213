/** Promises 1 to 5: a new object, append, clearText, errorPosition, load. */
public final class TextTest {
    public static void main(String[] args) {
        newObject();
        append();
        clearText();
        goodTexts();
        wrongTexts();
        load();
        loadRefuses();
        Check.finish();
    }

    private static void newObject() {
        AliasStreams x = new AliasStreams();
        int[] want = {2, 1, 0, 0, 0, 0, 1};
        for (int what = 0; what < want.length; what++) {
            Check.due("1: about(" + what + ")", x.about(what), want[what]);
        }
        Check.same("1: the state", Check.state(x), "1/16 1/16 ||||512 512");
        Check.due("1: the text is empty", x.clearText(), 0);
        Check.refuses("1: nothing is remembered", Check.STATE, x::undo);
        Check.refuses("1: nothing is saved in 0", Check.STATE, () -> x.restore(0));
        Check.refuses("1: nothing is saved in 1", Check.STATE, () -> x.restore(1));
    }

    private static void append() {
        AliasStreams x = new AliasStreams();
        Check.refuses("2: append(-1)", Check.ARGUMENT, () -> x.append(-1));
        Check.refuses("2: append(256)", Check.ARGUMENT, () -> x.append(256));
        Check.due("2: append(0)", x.append(0), 1);
        Check.due("2: append(255)", x.append(255), 2);
        for (int i = 3; i <= 100; i++) {
            Check.due("2: append(65)", x.append(65), i);
        }
        Check.refuses("2: the 101st character", Check.STATE, () -> x.append(65));
        Check.refuses("2: the argument comes first", Check.ARGUMENT, () -> x.append(256));
        Check.due("2: the length stays", x.clearText(), 100);
    }

    private static void clearText() {
        AliasStreams x = new AliasStreams();
        Check.write(x, "A2m0101");
        Check.due("3: clearText()", x.clearText(), 7);
        Check.due("3: clearText() of an empty text", x.clearText(), 0);
        Check.due("3: the text begins anew", x.append('A'), 1);
        Check.due("3: nothing is left of the old text", x.errorPosition(), 1);
    }

    private static void error(String text, int want) {
        AliasStreams x = new AliasStreams();
        Check.write(x, text);
        Check.due("4: errorPosition() of " + text, x.errorPosition(), want);
        Check.due("4: it keeps the text " + text, x.clearText(), text.length());
        Check.due("4: it loads nothing of " + text, x.about(0), 2);
    }

    private static void goodTexts() {
        error("A2m0100", -9);
        error("A2m0001", -9);
        error("A2m1000", -9);
        error("A2m0010", -9);
        error("A8m9999999999999999m0000000000000001m1000000000000000:hgfedcba012", -9);
        error("A2m0101:" + "a".repeat(40), -9);
        error("A3m000001m010000m000100:2c0a1b", -9);
    }

    private static void wrongTexts() {
        error("", 0);
        error("B", 0);
        error("m", 0);
        error("a2m0101", 0);
        error("A", 1);
        error("A1", 1);
        error("A9m", 1);
        error("Am", 1);
        error("A2", 2);
        error("A2:", 2);
        error("A20", 2);
        error("A2m", 3);
        error("A2m010", 6);
        error("A2m01:", 5);
        error("A2m0000", 6);
        error("A2m000", 6);
        error("A2m000/", 6);
        error("A2m0100m0000", 11);
        error("A8m0000000000000000:a", 18);
        error("A2m01010", 7);
        error("A2m0101 ", 7);
        error("A2m0101m", 8);
        error("A2m0101m0101m0101m0101", 17);
        error("A2m0101:", 8);
        error("A2m0101::", 8);
        error("A2m0101:c", 8);
        error("A2m0101:A", 8);
        error("A2m0101:`", 8);
        error("A2m0101:ab1", 10);
        error("A2m0101m0101:ab12", 16);
        error("A2m0101m0101m0101:0123", 21);
        error("A2m0101:a/", 9);
        error("A2m0101:am", 9);
        error("A2m0101:" + "a".repeat(41), 48);
        error("A2m0101:" + "a".repeat(92), 48);
        error("A8m0101010101010101:hi", 21);
        error("A2m0/01", 4);
        error("A2m0:01", 4);
        error("A2m01m0101", 5);
    }

    private static void load() {
        AliasStreams x = Check.encoded("A2m0199:ab");
        x.save(0);
        x.save(1);
        x.setHead(0, 600);
        Check.write(x, "A3m010203m990001:a1c0b");
        Check.due("5: load()", x.load(), 5);
        Check.same("5: the state", Check.state(x), "1/5 2/11 3/16 |99/31 0/0 1/1 |a1c0b|||512 512");
        Check.due("5: n", x.about(0), 3);
        Check.due("5: models", x.about(1), 2);
        Check.refuses("5: forgets the states", Check.STATE, x::undo);
        Check.refuses("5: empties slot 0", Check.STATE, () -> x.restore(0));
        Check.refuses("5: empties slot 1", Check.STATE, () -> x.restore(1));
        Check.due("5: keeps the text", x.clearText(), 22);
        Check.write(x, "A2m0101");
        Check.due("5: load() without items", x.load(), 0);
        Check.same("5: the state without items", Check.state(x), "1/16 1/16 ||||512 512");
        Check.refuses("5: fewer models", Check.INDEX, () -> x.symbol(1, 0, 0));
        Check.refuses("5: fewer symbols", Check.INDEX, () -> x.symbol(0, 2, 0));
    }

    private static void loadRefuses() {
        AliasStreams x = Check.encoded("A2m0199:aa");
        x.save(1);
        String before = Check.state(x);
        Check.write(x, "A3m010101:abd");
        Check.refuses("5: load() of a wrong text", Check.STATE, x::load);
        Check.same("5: a refused load changes nothing", Check.state(x), before);
        Check.due("5: a refused load keeps the text", x.clearText(), 13);
        Check.refuses("5: load() of no text", Check.STATE, x::load);
        Check.due("5: a refused load keeps the remembered states", x.undo(), 0);
        Check.due("5: a refused load keeps the save slots", x.restore(1), 2);
    }
}
