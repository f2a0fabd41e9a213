/** The boundary cases of promises 10, 13, 14 and 23 to 26 and of the message's terms, a test for each sentence. */
public final class MessageEdgesTest {
    private static final int NONE = AliasStreams.NONE;
    private static final String TWO = "A2m0101m0101";
    private static final String FULL = TWO + ":" + "ab".repeat(20);
    private static final String RARE = "A2m0199m0001m0101";

    public static void main(String[] args) {
        itemAnswers();
        itemRefuses();
        insertPlace();
        insertItem();
        insertAnswers();
        insertIntoFullMessage();
        insertOrder();
        insertMovesTheRest();
        removeRefuses();
        removeAnswers();
        removeFromFullMessage();
        modelOfSymbol();
        symbolsAreNumbered();
        unfitNone();
        unfitFirst();
        digitsWithRefuses();
        digitsWithOneModel();
        digitsWithNone();
        digitsWithoutSymbols();
        productRefuses();
        productNumber();
        productOfThoseThatThereAre();
        productZero();
        greatestProduct();
        bestModelRefuses();
        bestModelAmongSeveral();
        bestModelOfThoseThatThereAre();
        Check.finish();
    }

    /** Promise 10, "Returns the symbol; 10 + (model) for a change." */
    private static void itemAnswers() {
        AliasStreams x = Check.loaded("A8" + "m0101010101010101".repeat(3) + ":ah012");
        int[] want = {0, 7, 10, 11, 12};
        for (int i = 0; i < want.length; i++) {
            Check.due("10: item(" + i + ")", x.item(i), want[i]);
        }
    }

    /** Promise 10, "Throws IndexOutOfBoundsException if there is no such item". */
    private static void itemRefuses() {
        Check.refusesAll("10: item of none", Check.INDEX, 0, -1, i -> new AliasStreams().item(i));
        Check.range("10: item of one", Check.INDEX, 0, 0, i -> Check.loaded(TWO + ":a").item(i));
        Check.range("10: item of forty", Check.INDEX, 0, 39, i -> Check.loaded(FULL).item(i));
        AliasStreams x = Check.loaded(FULL);
        x.remove(39);
        Check.refuses("10: an item that was removed", Check.INDEX, () -> x.item(39));
    }

    /**
     * Promise 13, "i: its place, 0 to the number of items", "Throws IndexOutOfBoundsException if i is out of
     * range".
     */
    private static void insertPlace() {
        Check.range("13: place in none", Check.INDEX, 0, 0, i -> Check.loaded(TWO).insert(i, 0));
        Check.range("13: place in two", Check.INDEX, 0, 2, i -> Check.loaded(TWO + ":ab").insert(i, 11));
        Check.range("13: place in 39", Check.INDEX, 0, 39, i -> {
            AliasStreams x = Check.loaded(FULL);
            x.remove(0);
            return x.insert(i, 0);
        });
    }

    /** Promise 13, "Throws IllegalArgumentException if item is neither a symbol nor 10 + (a model)". */
    private static void insertItem() {
        for (int n = 2; n <= 8; n++) {
            for (int models = 1; models <= 3; models++) {
                String text = "A" + n + ("m" + "01".repeat(n)).repeat(models);
                for (int item = -12; item < 25; item++) {
                    boolean good = item >= 0 && item < n || item >= 10 && item < 10 + models;
                    int value = item;
                    Check.same("13: item " + item + " of " + text,
                        Check.outcome(() -> Check.loaded(text).insert(0, value)), good ? "1" : Check.ARGUMENT);
                }
            }
        }
        Check.refusesAll("13: item far away", Check.ARGUMENT, 0, 13, item -> Check.loaded(TWO).insert(0, item));
    }

    /** Promise 13, "Returns the number of items then." */
    private static void insertAnswers() {
        AliasStreams x = Check.loaded(TWO);
        for (int items = 1; items <= 40; items++) {
            Check.due("13: items", x.insert(items / 2, items % 2 == 0 ? 0 : 11), items);
        }
        Check.due("13: items", x.about(2), 40);
    }

    /**
     * Promise 13, "Throws IllegalStateException if the message has 40 items"; Terms "a sequence of at most 40
     * items".
     */
    private static void insertIntoFullMessage() {
        for (int i = 0; i <= 40; i++) {
            int place = i;
            Check.refuses("13: a symbol at " + i, Check.STATE, () -> Check.loaded(FULL).insert(place, 1));
            Check.refuses("13: a change at " + i, Check.STATE, () -> Check.loaded(FULL).insert(place, 11));
        }
        AliasStreams x = Check.loaded(FULL);
        x.remove(5);
        Check.due("13: the fortieth item", x.insert(39, 0), 40);
        Check.refuses("13: the forty-first item", Check.STATE, () -> x.insert(0, 0));
    }

    /** Promise 13, "If several exceptions apply to a call, the one that its description names first is thrown." */
    private static void insertOrder() {
        Check.refuses("13: place and item", Check.INDEX, () -> Check.loaded(TWO).insert(1, 2));
        Check.refuses("13: place and item", Check.INDEX, () -> Check.loaded(TWO).insert(-1, 12));
        Check.refuses("13: place and full", Check.INDEX, () -> Check.loaded(FULL).insert(41, 0));
        Check.refuses("13: item and full", Check.ARGUMENT, () -> Check.loaded(FULL).insert(40, 2));
        Check.refuses("13: all three", Check.INDEX, () -> Check.loaded(FULL).insert(41, 2));
    }

    /** Promise 13, "Inserts an item into the message." */
    private static void insertMovesTheRest() {
        String[] want = {"1aba", "a1ba", "ab1a", "aba1"};
        for (int i = 0; i < want.length; i++) {
            AliasStreams x = Check.loaded(TWO + ":aba");
            x.insert(i, 11);
            Check.same("13: inserted at " + i, Check.message(x), want[i]);
        }
        AliasStreams x = Check.loaded(TWO + ":" + "ab".repeat(19) + "a");
        x.insert(0, 11);
        Check.same("13: the fortieth item at the beginning", Check.message(x), "1" + "ab".repeat(19) + "a");
    }

    /** Promise 14, "Throws IndexOutOfBoundsException if there is no such item". */
    private static void removeRefuses() {
        Check.refusesAll("14: item of none", Check.INDEX, 0, -1, i -> new AliasStreams().remove(i));
        Check.range("14: item of one", Check.INDEX, 0, 0, i -> Check.loaded(TWO + ":a").remove(i));
        Check.range("14: item of forty", Check.INDEX, 0, 39, i -> Check.loaded(FULL).remove(i));
    }

    /** Promise 14, "Returns what it was, as told by item()." */
    private static void removeAnswers() {
        AliasStreams x = Check.loaded("A8" + "m0101010101010101".repeat(3) + ":ah012");
        Check.due("14: the last item", x.remove(4), 12);
        Check.due("14: the first item", x.remove(0), 0);
        Check.due("14: one between", x.remove(1), 10);
        Check.same("14: the rest", Check.message(x), "h1");
        Check.due("14: a symbol", x.remove(0), 7);
        Check.due("14: the only item", x.remove(0), 11);
        Check.due("14: none is left", x.about(2), 0);
    }

    /** Promise 14, "Removes an item from the message." */
    private static void removeFromFullMessage() {
        for (int i = 0; i < 40; i += 13) {
            AliasStreams x = Check.loaded(FULL);
            x.remove(i);
            String all = "ab".repeat(20);
            Check.same("14: without item " + i, Check.message(x), all.substring(0, i) + all.substring(i + 1));
        }
    }

    /**
     * Promise 15, Terms "The model of a symbol is that of the last change before it, and model 0 if there is
     * none."
     */
    private static void modelOfSymbol() {
        String[] messages = {"ab", "1ab", "a1b", "ab1", "12a0b", "1a1b", "2a01b", "0ab"};
        String[] plans = {"00", "11", "01", "00", "20", "11", "21", "00"};
        for (int i = 0; i < messages.length; i++) {
            AliasStreams x = Check.encoded("A2m0101m0102m0103:" + messages[i]);
            Check.same("15: the models of " + messages[i], Check.plan(x), plans[i]);
        }
    }

    /** Promises 23 and 25, Terms "The symbols of the message are numbered from 0 (changes do not count)." */
    private static void symbolsAreNumbered() {
        AliasStreams x = Check.loaded("A3m010203m010203:11a1b1c1");
        long[] want = {5, 11, 16};
        for (int k = 0; k < want.length; k++) {
            Check.due("25: symbol " + k, x.product(0, k, 1), want[k]);
        }
        Check.refuses("25: the changes are no symbols", Check.INDEX, () -> x.product(0, 3, 1));
        Check.due("23: the second symbol", Check.loaded("A2m0101m0001:11b0a11a").unfit(), 2);
    }

    /** Promise 23, "NONE if there is none." */
    private static void unfitNone() {
        Check.due("23: no item", new AliasStreams().unfit(), NONE);
        Check.due("23: no symbol", Check.loaded("A2m0001m0100:01").unfit(), NONE);
        Check.due("23: all fit", Check.loaded("A2m0001m0100:" + "b1a0".repeat(10)).unfit(), NONE);
        Check.due("23: count 1 of 100 fits", Check.loaded("A2m0199:aaa").unfit(), NONE);
    }

    /** Promise 23, "Returns the first symbol of the message that has the frequency 0 in its model". */
    private static void unfitFirst() {
        Check.due("23: the first one", Check.loaded("A2m0001:" + "a".repeat(40)).unfit(), 0);
        Check.due("23: the last one", Check.loaded("A2m0001:" + "b".repeat(39) + "a").unfit(), 39);
        Check.due("23: a change in vain", Check.loaded("A2m0001m0101:1aa0a").unfit(), 2);
        AliasStreams x = Check.loaded("A2m0101:ab");
        x.setCount(0, 1, 0);
        Check.due("23: with the frequencies of now", x.unfit(), 1);
        x.undo();
        Check.due("23: and of now again", x.unfit(), NONE);
    }

    /** Promise 24, "Throws IndexOutOfBoundsException if there is no such model". */
    private static void digitsWithRefuses() {
        Check.range("24: model of one", Check.INDEX, 0, 0, m -> new AliasStreams().digitsWith(m));
        Check.range("24: model of three", Check.INDEX, 0, 2, m -> Check.loaded(RARE + ":ab").digitsWith(m));
    }

    /**
     * Promise 24, "if the message were encoded with one model alone", "m: model, which all symbols of the message
     * have then".
     */
    private static void digitsWithOneModel() {
        AliasStreams x = Check.loaded(RARE + ":2aaaa1" + "0a".repeat(4));
        Check.due("24: with model 0", x.digitsWith(0), 10);
        Check.due("24: with model 2", x.digitsWith(2), 2);
        Check.due("24: the most digits", Check.loaded(RARE + ":" + "a".repeat(40)).digitsWith(0), 50);
        Check.due("24: the message keeps its models", x.encode(), 6);
        AliasStreams used = Check.encoded(RARE + ":aaaa");
        used.setHead(0, 8191);
        String before = Check.state(used);
        Check.due("24: it begins with an empty tape", used.digitsWith(0), 4);
        Check.same("24: the tape stays", Check.state(used), before);
    }

    /** Promise 24, "NONE if a symbol of the message has the frequency 0 in it." */
    private static void digitsWithNone() {
        Check.due("24: unfit with 1 alone", Check.loaded(RARE + ":ab").digitsWith(1), NONE);
        Check.due("24: the last one is unfit", Check.loaded(RARE + ":" + "b".repeat(39) + "a").digitsWith(1), NONE);
        Check.due("24: unfit as it is, fit with 2", Check.loaded(RARE + ":1ab").digitsWith(2), 0);
        Check.due("24: fit with 1 alone", Check.loaded(RARE + ":" + "b".repeat(40)).digitsWith(1), 0);
    }

    /** Promise 24, "Returns how many digits the tape would have": none for a message without symbols. */
    private static void digitsWithoutSymbols() {
        for (int m = 0; m < 3; m++) {
            Check.due("24: no item", Check.loaded(RARE).digitsWith(m), 0);
            Check.due("24: changes alone", Check.loaded(RARE + ":012").digitsWith(m), 0);
        }
    }

    /** Promise 25, "Throws IndexOutOfBoundsException if there is no such model or symbol of the message". */
    private static void productRefuses() {
        Check.range("25: m", Check.INDEX, 0, 2, m -> Check.loaded(RARE + ":ab").product(m, 0, 1));
        Check.range("25: k of two", Check.INDEX, 0, 1, k -> Check.loaded(RARE + ":1a0b2").product(0, k, 12));
        Check.range("25: k of forty", Check.INDEX, 0, 39, k -> Check.loaded(FULL).product(1, k, 12));
        Check.refusesAll("25: k of none", Check.INDEX, 0, -1, k -> Check.loaded(RARE + ":01").product(0, k, 1));
        Check.refusesAll("25: m and n", Check.INDEX, 0, 2, m -> Check.loaded(RARE + ":a").product(m, 0, 0));
        Check.refusesAll("25: k and n", Check.INDEX, 0, 0, k -> Check.loaded(RARE + ":a").product(0, k, 13));
    }

    /**
     * Promises 25 and 26, "n: number of symbols, 1 to 12", "Throws IllegalArgumentException if n is out of range".
     */
    private static void productNumber() {
        Check.range("25: n", Check.ARGUMENT, 1, 12, n -> Check.loaded(FULL).product(0, 39, n));
        Check.range("26: n", Check.ARGUMENT, 1, 12, n -> Check.loaded(FULL).bestModel(39, n));
    }

    /** Promise 25, "the symbols k to k + n - 1 (of those that there are)." */
    private static void productOfThoseThatThereAre() {
        AliasStreams x = Check.loaded("A3m010203m010101:abc" + "b".repeat(12));
        Check.due("25: one", x.product(0, 0, 1), 5);
        Check.due("25: two", x.product(0, 0, 2), 5 * 11);
        Check.due("25: three from 1 on", x.product(0, 1, 3), 11 * 16 * 11);
        Check.due("25: in another model", x.product(1, 0, 3), 11 * 11 * 10);
        Check.due("25: the last one alone", x.product(0, 14, 12), 11);
        Check.due("25: the last two", x.product(0, 13, 12), 11 * 11);
        Check.due("25: twelve of twelve", x.product(0, 3, 12), 3138428376721L);
        Check.due("25: eleven of eleven", x.product(0, 4, 12), 285311670611L);
    }

    /** Promise 25, "the product of the frequencies": 0 if one of them is 0. */
    private static void productZero() {
        AliasStreams x = Check.loaded(RARE + ":bab");
        Check.due("25: before it", x.product(1, 0, 1), 32);
        Check.due("25: with it", x.product(1, 0, 2), 0);
        Check.due("25: beyond it", x.product(1, 0, 12), 0);
        Check.due("25: after it", x.product(1, 2, 12), 32);
    }

    /** Promise 25, "Returns the product": a long, the greatest being that of twelve frequencies 32. */
    private static void greatestProduct() {
        Check.due("25: the greatest", Check.loaded(RARE + ":" + "b".repeat(40)).product(1, 0, 12), 1L << 60);
        Check.due("25: beyond an int", Check.loaded(RARE + ":" + "b".repeat(40)).product(1, 33, 7), 1L << 35);
    }

    /** Promise 26, "Throws IndexOutOfBoundsException if there is no such symbol of the message". */
    private static void bestModelRefuses() {
        Check.refusesAll("26: k of none", Check.INDEX, 0, -1, k -> Check.loaded(RARE + ":01").bestModel(k, 1));
        Check.range("26: k of two", Check.INDEX, 0, 1, k -> Check.loaded(RARE + ":1a0b2").bestModel(k, 1));
        Check.range("26: k of forty", Check.INDEX, 0, 39, k -> Check.loaded(FULL).bestModel(k, 12));
        Check.refusesAll("26: k and n", Check.INDEX, 0, 0, k -> Check.loaded(RARE + ":a").bestModel(k, 13));
    }

    /**
     * Promise 26, "Returns the model with the greatest product", "among several the one with the smallest number."
     */
    private static void bestModelAmongSeveral() {
        Check.due("26: all alike", Check.loaded("A2m0101m0202m0303:ab").bestModel(0, 2), 0);
        Check.due("26: the last two alike", Check.loaded("A2m0101m0199m0299:b").bestModel(0, 1), 1);
        Check.due("26: first and last alike", Check.loaded("A2m0199m0101m0299:b").bestModel(0, 1), 0);
        Check.due("26: all 0", Check.loaded("A2m0001m0001m0001:a").bestModel(0, 1), 0);
        Check.due("26: the last one", Check.loaded("A2m0001m0001m0101:a").bestModel(0, 1), 2);
        Check.due("26: greater than an int tells", Check.loaded("A2m9901m9900:" + "a".repeat(12)).bestModel(0, 12), 1);
        Check.due("26: one model", Check.loaded("A2m0001:a").bestModel(0, 1), 0);
        AliasStreams fewer = Check.loaded("A2m9901m0199m0199:b");
        Check.write(fewer, "A2m9901:b");
        fewer.load();
        Check.due("26: the models of an earlier text are gone", fewer.bestModel(0, 1), 0);
    }

    /** Promise 26, "n: number of symbols", "as told by product()": of those that there are. */
    private static void bestModelOfThoseThatThereAre() {
        AliasStreams x = Check.loaded("A2m0101m0199m9901:abbba");
        Check.due("26: one a", x.bestModel(0, 1), 2);
        Check.due("26: ab", x.bestModel(0, 2), 0);
        Check.due("26: bb", x.bestModel(1, 2), 1);
        Check.due("26: ba and the end", x.bestModel(3, 12), 0);
        Check.due("26: a and the end", x.bestModel(4, 12), 2);
    }
}
