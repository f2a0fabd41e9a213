/** The boundary cases of promises 1 to 5 and of the document's part TEXT, a test for each sentence. */
public final class TextEdgesTest {
    private static final int NONE = AliasStreams.NONE;
    private static final String DIGITS = "0123456789";

    public static void main(String[] args) {
        newSymbolsAndModel();
        newCounts();
        newMessageAndTape();
        nothingElseAtFirst();
        characterCodes();
        lengthAfterAppend();
        fullText();
        fullTextAndWrongCode();
        emptiedText();
        lengthBeforeClear();
        goodText();
        digitN();
        numberOfModels();
        fourthModel();
        digitsOfCounts();
        countsAllZero();
        itemsAfterColon();
        noItems();
        fortyFirstItem();
        letterOfSymbol();
        digitOfModel();
        noBlanks();
        firstWrongCharacter();
        everyCharacterAtItsPlace();
        endsTooSoon();
        loadReplaces();
        loadedTape();
        loadForgets();
        loadEmptiesSaveSlots();
        loadKeepsText();
        loadAnswers();
        loadRefuses();
        Check.finish();
    }

    /** Promise 1, "Creates two symbols, one model, and an empty message and tape." */
    private static void newSymbolsAndModel() {
        AliasStreams x = new AliasStreams();
        Check.due("1: n", x.about(0), 2);
        Check.due("1: models", x.about(1), 1);
        Check.refuses("1: a third symbol", Check.INDEX, () -> x.symbol(0, 2, 0));
        Check.refuses("1: a second model", Check.INDEX, () -> x.symbol(1, 0, 0));
    }

    /** Promise 1, Terms "A new object has two symbols and one model, both counts of which are 1." */
    private static void newCounts() {
        AliasStreams x = new AliasStreams();
        for (int s = 0; s < 2; s++) {
            Check.due("1: count", x.symbol(0, s, 0), 1);
            Check.due("1: frequency", x.symbol(0, s, 1), 16);
        }
    }

    /** Promise 1, Terms "At first message and tape are empty, and both heads are 512." */
    private static void newMessageAndTape() {
        AliasStreams x = new AliasStreams();
        for (int what = 2; what <= 5; what++) {
            Check.due("1: about(" + what + ")", x.about(what), 0);
        }
        Check.due("1: head 0", x.tape(2, 0), 512);
        Check.due("1: head 1", x.tape(2, 1), 512);
        Check.refuses("1: item 0", Check.INDEX, () -> x.item(0));
        Check.refuses("1: digit 0", Check.INDEX, () -> x.tape(0, 0));
        Check.refuses("1: plan 0", Check.INDEX, () -> x.tape(1, 0));
    }

    /** Promise 1: a new object has no text, remembers no state and has saved none. */
    private static void nothingElseAtFirst() {
        Check.due("1: the text", new AliasStreams().clearText(), 0);
        Check.refuses("1: a remembered state", Check.STATE, () -> new AliasStreams().undo());
        Check.refuses("1: save slot 0", Check.STATE, () -> new AliasStreams().restore(0));
        Check.refuses("1: save slot 1", Check.STATE, () -> new AliasStreams().restore(1));
    }

    /** Promise 2, "c: character code, 0 to 255", "Throws IllegalArgumentException if c is out of range". */
    private static void characterCodes() {
        Check.range("2: c", Check.ARGUMENT, 0, 255, c -> new AliasStreams().append(c));
    }

    /** Promise 2, "Returns the new length of the text." */
    private static void lengthAfterAppend() {
        AliasStreams x = new AliasStreams();
        for (int length = 1; length <= 100; length++) {
            Check.due("2: length", x.append(length), length);
        }
    }

    private static AliasStreams withText(int length) {
        AliasStreams x = new AliasStreams();
        Check.write(x, "A".repeat(length));
        return x;
    }

    /**
     * Promise 2, "Throws IllegalStateException if the text already has 100 characters";
     * Terms "The object has a text buffer of at most 100 characters."
     */
    private static void fullText() {
        Check.due("2: the 100th character", withText(99).append('A'), 100);
        AliasStreams full = withText(100);
        Check.refuses("2: the 101st character", Check.STATE, () -> full.append('A'));
        Check.refuses("2: once more", Check.STATE, () -> full.append(0));
        Check.due("2: the length stays", full.clearText(), 100);
    }

    /** Promise 2, "If several exceptions apply to a call, the one that its description names first is thrown." */
    private static void fullTextAndWrongCode() {
        Check.refuses("2: code 256 and a full text", Check.ARGUMENT, () -> withText(100).append(256));
        Check.refuses("2: code -1 and a full text", Check.ARGUMENT, () -> withText(100).append(-1));
    }

    /** Promise 3, "Empties the text buffer." */
    private static void emptiedText() {
        AliasStreams x = withText(100);
        x.clearText();
        Check.due("3: an empty text ends too soon", x.errorPosition(), 0);
        for (int length = 1; length <= 100; length++) {
            Check.due("3: there is room again", x.append('B'), length);
        }
        AliasStreams shorter = new AliasStreams();
        Check.write(shorter, "A2m0101:ab");
        Check.write(shorter, "A2m0101:a");
        Check.due("3: nothing of the old text follows", shorter.load(), 1);
    }

    /** Promise 3, "Returns the previous length of the text." */
    private static void lengthBeforeClear() {
        int[] lengths = {0, 1, 99, 100};
        for (int length : lengths) {
            AliasStreams x = withText(length);
            Check.due("3: of " + length, x.clearText(), length);
            Check.due("3: of none", x.clearText(), 0);
        }
    }

    private static void error(String text, int want) {
        AliasStreams x = new AliasStreams();
        Check.write(x, text);
        Check.due("4: errorPosition() of " + text, x.errorPosition(), want);
    }

    private static String model(int n) {
        return "m" + "01".repeat(n);
    }

    /** Promise 4, "Returns the error position of the text; NONE if it is a text as described above." */
    private static void goodText() {
        error("A2m0001", NONE);
        error("A8" + model(8).repeat(3) + ":" + "h".repeat(40), NONE);
        AliasStreams x = new AliasStreams();
        Check.write(x, "A3m010101:abc");
        Check.due("4: a good text", x.errorPosition(), NONE);
        Check.due("4: asked again", x.errorPosition(), NONE);
        Check.due("4: nothing is loaded", x.about(0), 2);
        Check.due("4: the text stays", x.clearText(), 13);
    }

    /** Promise 4, Terms "A text is the letter A, the digit n (2 to 8), 1 to 3 models, and items." */
    private static void digitN() {
        for (int c = 0; c < 256; c++) {
            boolean good = c >= '2' && c <= '8';
            error("A" + (char) c + model(c - '0' > 0 && c <= '9' ? c - '0' : 2), good ? NONE : 1);
        }
    }

    /** Promise 4, Terms "There are 1 to 3 models, numbered from 0." */
    private static void numberOfModels() {
        error("A2", 2);
        error("A2:a", 2);
        for (int models = 1; models <= 3; models++) {
            error("A2" + model(2).repeat(models), NONE);
            error("A8" + model(8).repeat(models) + ":a", NONE);
        }
    }

    /** Promise 4, Terms "(this includes the m of a fourth model". */
    private static void fourthModel() {
        error("A2" + model(2).repeat(3) + "m", 17);
        error("A2" + model(2).repeat(4), 17);
        error("A2" + model(2).repeat(4) + ":a", 17);
        error("A8" + model(8).repeat(4), 53);
    }

    /** Promise 4, Terms "A model is the letter m and two digits for the count of each symbol". */
    private static void digitsOfCounts() {
        for (int n = 2; n <= 8; n++) {
            String good = "A" + n + "m" + "09".repeat(n);
            error(good, NONE);
            error("A" + n + "m" + "90".repeat(n), NONE);
            for (int place = 3; place < good.length(); place++) {
                error(good.substring(0, place) + "/" + good.substring(place + 1), place);
                error(good.substring(0, place) + ":" + good.substring(place + 1), place);
                error(good.substring(0, place), place);
            }
            error(good + "0", good.length());
        }
    }

    /** Promise 4, Terms "(not all of them 00)", "the last digit of a model whose counts would all be 0". */
    private static void countsAllZero() {
        for (int n = 2; n <= 8; n++) {
            String zeros = "m" + "0".repeat(2 * n - 1);
            for (int before = 0; before < 3; before++) {
                String begin = "A" + n + model(n).repeat(before) + zeros;
                error(begin, begin.length());
                error(begin + "0", begin.length());
                error(begin + "0:a", begin.length());
                error(begin + "1", NONE);
                error(begin.substring(0, begin.length() - 1) + "10", NONE);
                error("A" + n + model(n).repeat(before) + "m01" + "00".repeat(n - 1), NONE);
                error("A" + n + model(n).repeat(before) + "m10" + "00".repeat(n - 1), NONE);
            }
        }
    }

    /** Promise 4, Terms "Then, if there are items, a colon and 1 to 40 items". */
    private static void itemsAfterColon() {
        error("A2m0101:a", NONE);
        error("A2m0101:0", NONE);
        error("A2m0101:" + "b".repeat(40), NONE);
        error("A2m0101:" + "0".repeat(40), NONE);
        error("A2m0101a", 7);
        error("A2m0101::a", 8);
        error("A2m0101:a:", 9);
    }

    /** Promise 4, Terms "if there are items, a colon": without items there is none, and a colon asks for one. */
    private static void noItems() {
        error("A2m0101", NONE);
        error("A2m0101:", 8);
        error("A2m0101m0101:", 13);
        error("A8" + model(8).repeat(3) + ":", 54);
    }

    /** Promise 4, Terms "a forty-first item". */
    private static void fortyFirstItem() {
        error("A2m0101:" + "a".repeat(41), 48);
        error("A2m0101:" + "a".repeat(92), 48);
        error("A2m0101:" + "0".repeat(41), 48);
        error("A2m0101:" + "a".repeat(40) + "c", 48);
        error("A8" + model(8).repeat(3) + ":" + "0".repeat(20) + "h".repeat(21), 94);
    }

    /**
     * Promise 4, Terms "the letter of a symbol"; "There are n symbols, 2 to 8, numbered from 0 (also called a to
     * h)."
     */
    private static void letterOfSymbol() {
        for (int n = 2; n <= 8; n++) {
            String begin = "A" + n + model(n) + ":b";
            for (int s = 0; s < 10; s++) {
                error(begin + (char) ('a' + s), s < n ? NONE : begin.length());
            }
            error(begin + "`", begin.length());
            error(begin + "A", begin.length());
        }
    }

    /** Promise 4, Terms "or the digit of a model for a change to it", "the digit of a model that there is not". */
    private static void digitOfModel() {
        for (int models = 1; models <= 3; models++) {
            String begin = "A2" + model(2).repeat(models) + ":a";
            for (int m = 0; m < 10; m++) {
                error(begin + m, m < models ? NONE : begin.length());
            }
            error(begin + "/", begin.length());
        }
    }

    /** Promise 4, Terms "There are no blanks." */
    private static void noBlanks() {
        String good = "A2m0101m0102:a1b";
        for (int place = 0; place <= good.length(); place++) {
            error(good.substring(0, place) + " " + good.substring(place), place);
            error(good.substring(0, place) + "\n" + good.substring(place), place);
        }
    }

    /**
     * Promise 4, Terms "The error position is the index of the first character that these rules do not allow at
     * its place".
     */
    private static void firstWrongCharacter() {
        error("B9x", 0);
        error("A9x0000", 1);
        error("A2x0000", 2);
        error("A2m0x0x", 4);
        error("A2m0000:c", 6);
        error("A2m0101:ac9", 9);
        error("A2m0101:2" + "a".repeat(41), 8);
    }

    /** Promise 4, Terms "at its place": each character of 0 to 255 is tried at each place of one text. */
    private static void everyCharacterAtItsPlace() {
        String good = "A2m0001m1000:1b";
        String[] allowed = {"A", "2345678", "m", DIGITS, DIGITS, DIGITS, "123456789", "m:", DIGITS, DIGITS, DIGITS,
            DIGITS, "m:", "01ab", "01ab"};
        for (int place = 0; place < good.length(); place++) {
            for (int c = 0; c < 256; c++) {
                boolean fits = allowed[place].indexOf(c) >= 0;
                boolean whole = place == 6 || place == 11 || place >= 13;
                error(good.substring(0, place) + (char) c, !fits ? place : whole ? NONE : place + 1);
            }
        }
    }

    /** Promise 4, Terms "if the text ends too soon, it is the length of the text." */
    private static void endsTooSoon() {
        String good = "A2m0101m0102m0103:a";
        for (int length = 0; length <= good.length(); length++) {
            boolean whole = length == 7 || length == 12 || length == 17 || length == 19;
            error(good.substring(0, length), whole ? NONE : length);
        }
    }

    private static AliasStreams used() {
        AliasStreams x = Check.encoded("A3m010299m010101m990101:abc1abcabc2abcabc");
        x.save(0);
        x.save(1);
        for (int i = 0; i < 14; i++) {
            x.setHead(i % 2, 600 + i);
        }
        return x;
    }

    /** Promise 5, "Replaces the symbols, the models and the message by those of the text". */
    private static void loadReplaces() {
        AliasStreams x = used();
        Check.write(x, "A2m0003");
        x.load();
        Check.same("5: the least text", Check.state(x), "0/0 3/32 ||||512 512");
        Check.refuses("5: no third symbol", Check.INDEX, () -> x.symbol(0, 2, 0));
        Check.refuses("5: no second model", Check.INDEX, () -> x.symbol(1, 0, 0));
        Check.refuses("5: no item", Check.INDEX, () -> x.item(0));
        AliasStreams most = new AliasStreams();
        String message = "ab2h1g0f".repeat(5);
        Check.write(most, "A8m9900000000000001m0000000000000099m0101010101010101:" + message);
        most.load();
        Check.same("5: the greatest text", Check.state(most), "99/31 0/0 0/0 0/0 0/0 0/0 0/0 1/1 |"
            + "0/0 0/0 0/0 0/0 0/0 0/0 0/0 99/32 |1/4 1/4 1/4 1/4 1/4 1/4 1/4 1/4 |" + message + "|||512 512");
        Check.write(most, "A2m0101m0102m0199:ab");
        most.load();
        Check.same("5: nothing of an earlier text counts", Check.state(most),
            "1/16 1/16 |1/11 2/21 |1/1 99/31 |ab|||512 512");
    }

    /** Promise 5, "the tape becomes as at first." */
    private static void loadedTape() {
        AliasStreams x = used();
        x.load();
        Check.due("5: digits", x.about(4), 0);
        Check.due("5: plan", x.about(5), 0);
        Check.due("5: head 0", x.tape(2, 0), 512);
        Check.due("5: head 1", x.tape(2, 1), 512);
    }

    /** Promise 5, "Forgets all remembered states"; Terms "load and restore are not actions." */
    private static void loadForgets() {
        AliasStreams x = used();
        x.load();
        Check.refuses("5: undo after load", Check.STATE, x::undo);
        x.setHead(0, 700);
        Check.due("5: the next action is the only one", x.undo(), 0);
        Check.due("5: and leads to what was loaded", x.tape(2, 0), 512);
    }

    /** Promise 5, "and empties both save slots." */
    private static void loadEmptiesSaveSlots() {
        AliasStreams x = used();
        x.load();
        Check.refuses("5: slot 0", Check.STATE, () -> x.restore(0));
        Check.refuses("5: slot 1", Check.STATE, () -> x.restore(1));
    }

    /** Promise 5, "Keeps the text." */
    private static void loadKeepsText() {
        AliasStreams x = new AliasStreams();
        Check.write(x, "A2m0101m0101:a1b");
        Check.due("5: load()", x.load(), 3);
        Check.due("5: load() again", x.load(), 3);
        Check.due("5: the text goes on", x.append('b'), 17);
        Check.due("5: load() of more", x.load(), 4);
        Check.due("5: the length", x.clearText(), 17);
    }

    /** Promise 5, "Returns the number of items." */
    private static void loadAnswers() {
        String[] items = {"", ":a", ":0", ":" + "a1".repeat(20)};
        int[] want = {0, 1, 1, 40};
        for (int i = 0; i < items.length; i++) {
            AliasStreams x = new AliasStreams();
            Check.write(x, "A2m0101m0101" + items[i]);
            Check.due("5: items of " + items[i], x.load(), want[i]);
        }
    }

    /** Promise 5, "Throws IllegalStateException if the text is not as described above". */
    private static void loadRefuses() {
        String[] wrong = {"", "A", "A2", "A1m01", "A2m010", "A2m0000", "A2m0101:", "A2m0101:c", "A2m0101:1",
            "A2m0101 ", "A2m0101:" + "a".repeat(41), "A2m0101m0101m0101m0101"};
        for (String text : wrong) {
            AliasStreams x = new AliasStreams();
            Check.write(x, text);
            Check.refuses("5: load() of " + text, Check.STATE, x::load);
            Check.due("5: the text stays", x.clearText(), text.length());
        }
    }
}
