/** What the tests share: comparing answers, waiting for exceptions, making objects from texts. */
final class Check {
    interface Call {
        long answer();
    }

    static final String INDEX = "throws.IndexOutOfBoundsException";
    static final String ARGUMENT = "throws.IllegalArgumentException";
    static final String STATE = "throws.IllegalStateException";

    private static int wrong;

    private Check() {
    }

    static void due(String what, long got, long want) {
        same(what, Long.toString(got), Long.toString(want));
    }

    static void same(String what, String got, String want) {
        if (!got.equals(want)) {
            wrong++;
            System.out.println(what + " answered " + got + ", due is " + want);
        }
    }

    static void refuses(String what, String exception, Call call) {
        same(what, outcome(call), exception);
    }

    /** The exception's own class counts: a machine's ArrayIndexOutOfBoundsException is not the document's. */
    static String outcome(Call call) {
        try {
            return Long.toString(call.answer());
        } catch (RuntimeException e) {
            return "throws." + e.getClass().getSimpleName();
        }
    }

    static void write(AliasStreams x, String text) {
        x.clearText();
        for (int i = 0; i < text.length(); i++) {
            x.append(text.charAt(i));
        }
    }

    static AliasStreams loaded(String text) {
        AliasStreams x = new AliasStreams();
        write(x, text);
        x.load();
        return x;
    }

    static AliasStreams encoded(String text) {
        AliasStreams x = loaded(text);
        x.encode();
        return x;
    }

    /** Symbols as letters, changes as digits. */
    static String message(AliasStreams x) {
        StringBuilder s = new StringBuilder();
        for (int i = 0, end = x.about(2); i < end; i++) {
            int item = x.item(i);
            s.append((char) (item < 10 ? 'a' + item : '0' + item - 10));
        }
        return s.toString();
    }

    static String digits(AliasStreams x) {
        StringBuilder s = new StringBuilder();
        for (int k = 0, end = x.about(4); k < end; k++) {
            s.append(Integer.toHexString(x.tape(0, k)));
        }
        return s.toString();
    }

    static String plan(AliasStreams x) {
        StringBuilder s = new StringBuilder();
        for (int k = 0, end = x.about(5); k < end; k++) {
            s.append(x.tape(1, k));
        }
        return s.toString();
    }

    static String takenSymbols(AliasStreams x) {
        StringBuilder s = new StringBuilder();
        for (int k = 0, end = x.about(5); k < end; k++) {
            int symbol = x.taken(k, 0);
            s.append(symbol == AliasStreams.NONE ? '-' : (char) ('a' + symbol));
        }
        return s.toString();
    }

    /** Everything that makes up the state, to see that a call changed nothing. */
    static String state(AliasStreams x) {
        StringBuilder s = new StringBuilder();
        int symbols = x.about(0);
        for (int m = 0, end = x.about(1); m < end; m++) {
            for (int i = 0; i < symbols; i++) {
                s.append(x.symbol(m, i, 0)).append('/').append(x.symbol(m, i, 1)).append(' ');
            }
            s.append('|');
        }
        s.append(message(x)).append('|').append(digits(x)).append('|').append(plan(x));
        return s.append('|').append(x.tape(2, 0)).append(' ').append(x.tape(2, 1)).toString();
    }

    static void finish() {
        if (wrong != 0) {
            System.out.println(wrong + " answers are not as due");
            System.exit(1);
        }
    }
}
