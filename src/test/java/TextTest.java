/** Promises 2 to 5 on ordinary inputs: append, clearText, errorPosition, load. */
public final class TextTest {
    public static void main(String[] args) {
        appendAndClear();
        texts();
        load();
        Check.finish();
    }

    private static void error(String text, int want) {
        AliasStreams x = new AliasStreams();
        Check.write(x, text);
        Check.due("4: errorPosition() of " + text, x.errorPosition(), want);
        Check.due("4: it keeps the text " + text, x.clearText(), text.length());
        Check.due("4: it loads nothing of " + text, x.about(0), 2);
    }

    private static void texts() {
        error("A3m000001m010000m000100:2c0a1b", -9);
        error("A8m9999999999999999m0000000000000001m1000000000000000:hgfedcba012", -9);
        error("a2m0101", 0);
        error("A9m0101", 1);
        error("A2m01m0101", 5);
        error("A2m0100m0000", 11);
        error("A2m0101m0101:ab12", 16);
        error("A2m0101:am", 9);
    }

    private static void appendAndClear() {
        AliasStreams x = new AliasStreams();
        String text = "A2m0101:ab";
        for (int i = 0; i < text.length(); i++) {
            Check.due("2: append", x.append(text.charAt(i)), i + 1);
        }
        Check.due("2: the text is there", x.load(), 2);
        Check.due("3: clearText()", x.clearText(), 10);
        Check.due("3: the text begins anew", x.append('A'), 1);
        Check.due("1 to 3: what was loaded stays", x.about(2), 2);
    }

    private static void load() {
        AliasStreams x = Check.encoded("A2m0199:ab");
        x.save(0);
        x.save(1);
        x.setHead(0, 600);
        Check.write(x, "A3m010203m990001:a1c0b");
        Check.due("5: load()", x.load(), 5);
        Check.same("5: the state", Check.state(x), "1/5 2/11 3/16 |99/31 0/0 1/1 |a1c0b|||512 512");
        Check.due("5: n", x.about(0), 3);
        Check.due("5: models", x.about(1), 2);
        Check.due("5: keeps the text", x.clearText(), 22);
        Check.write(x, "A2m0101");
        Check.due("5: load() without items", x.load(), 0);
        Check.same("5: the state without items", Check.state(x), "1/16 1/16 ||||512 512");
    }
}
