import java.util.List;
import java.util.Set;
import java.util.TreeSet;

/** What the tests share: comparing answers, waiting for exceptions, making objects from texts. */
final class Check {
    interface Call {
        long answer();
    }

    interface CallWith {
        long answer(int value);
    }

    static final String INDEX = "throws.IndexOutOfBoundsException";
    static final String ARGUMENT = "throws.IllegalArgumentException";
    static final String STATE = "throws.IllegalStateException";

    private static int wrong;

    private Check() {
    }

    static void due(String what, long got, long want) {
        same(what, Long.toString(got), Long.toString(want));
    }

    static void same(String what, String got, String want) {
        if (!got.equals(want)) {
            wrong++;
            System.out.println(what + " answered " + got + ", due is " + want);
        }
    }

    static void refuses(String what, String exception, Call call) {
        same(what, outcome(call), exception);
    }

    static void answers(String what, Call call) {
        String got = outcome(call);
        if (got.startsWith("throws")) {
            same(what, got, "an answer");
        }
    }

    /** Both bounds are taken; all that lies outside is refused, also what a wrap-around would bring inside. */
    static void range(String what, String exception, int from, int to, CallWith call) {
        answers(what + " " + from, () -> call.answer(from));
        answers(what + " " + to, () -> call.answer(to));
        refusesAll(what, exception, from, to, call);
    }

    /** Where nothing is inside, to is one less than from. */
    static void refusesAll(String what, String exception, int from, int to, CallWith call) {
        for (int value : outside(from, to)) {
            refuses(what + " " + value, exception, () -> call.answer(value));
        }
    }

    private static Set<Integer> outside(int from, int to) {
        Set<Integer> values = new TreeSet<>(List.of(from - 1, to + 1, -9, Integer.MIN_VALUE, Integer.MAX_VALUE));
        for (int bit = 0; bit < 32; bit++) {
            values.addAll(List.of(from + (1 << bit), to + (1 << bit), from - (1 << bit)));
        }
        values.removeIf(value -> value >= from && value <= to);
        return values;
    }

    /** The exception's own class counts: a machine's ArrayIndexOutOfBoundsException is not the document's. */
    static String outcome(Call call) {
        try {
            return Long.toString(call.answer());
        } catch (RuntimeException e) {
            return "throws." + e.getClass().getSimpleName();
        }
    }

    static void write(AliasStreams x, String text) {
        x.clearText();
        for (int i = 0; i < text.length(); i++) {
            x.append(text.charAt(i));
        }
    }

    static AliasStreams loaded(String text) {
        AliasStreams x = new AliasStreams();
        write(x, text);
        x.load();
        return x;
    }

    static AliasStreams encoded(String text) {
        AliasStreams x = loaded(text);
        x.encode();
        return x;
    }

    /** Symbols as letters, changes as digits. */
    static String message(AliasStreams x) {
        StringBuilder s = new StringBuilder();
        for (int i = 0, end = x.about(2); i < end; i++) {
            int item = x.item(i);
            s.append((char) (item < 10 ? 'a' + item : '0' + item - 10));
        }
        return s.toString();
    }

    static String digits(AliasStreams x) {
        StringBuilder s = new StringBuilder();
        for (int k = 0, end = x.about(4); k < end; k++) {
            s.append(Integer.toHexString(x.tape(0, k)));
        }
        return s.toString();
    }

    static String plan(AliasStreams x) {
        StringBuilder s = new StringBuilder();
        for (int k = 0, end = x.about(5); k < end; k++) {
            s.append(x.tape(1, k));
        }
        return s.toString();
    }

    static String takenSymbols(AliasStreams x) {
        StringBuilder s = new StringBuilder();
        for (int k = 0, end = x.about(5); k < end; k++) {
            int symbol = x.taken(k, 0);
            s.append(symbol == AliasStreams.NONE ? '-' : (char) ('a' + symbol));
        }
        return s.toString();
    }

    /** Everything that makes up the state, to see that a call changed nothing. */
    static String state(AliasStreams x) {
        StringBuilder s = new StringBuilder();
        int symbols = x.about(0);
        for (int m = 0, end = x.about(1); m < end; m++) {
            for (int i = 0; i < symbols; i++) {
                s.append(x.symbol(m, i, 0)).append('/').append(x.symbol(m, i, 1)).append(' ');
            }
            s.append('|');
        }
        s.append(message(x)).append('|').append(digits(x)).append('|').append(plan(x));
        return s.append('|').append(x.tape(2, 0)).append(' ').append(x.tape(2, 1)).toString();
    }

    /**
     * Everything that an object holds: the state, the remembered ones, the save slots, and what its text loads.
     * Reading it uses the object up, and only small objects stay within their 512 calls.
     */
    static String everything(AliasStreams x) {
        StringBuilder s = new StringBuilder(state(x));
        for (int i = 0; i < 15; i++) {
            s.append("\n undo ").append(outcome(x::undo)).append(" to ").append(marks(x));
        }
        for (int slot = 0; slot < 2; slot++) {
            int from = slot;
            s.append("\n restore ").append(outcome(() -> x.restore(from))).append(" to ").append(state(x));
        }
        s.append("\n error ").append(x.errorPosition()).append(" load ").append(outcome(x::load));
        return s.append(" to ").append(state(x)).append(" of ").append(x.clearText()).toString();
    }

    private static String marks(AliasStreams x) {
        return x.tape(2, 0) + " " + x.tape(2, 1) + " " + x.symbol(0, 0, 0) + " " + x.about(2) + " " + x.about(4);
    }

    static void finish() {
        if (wrong != 0) {
            System.out.println(wrong + " answers are not as due");
            System.exit(1);
        }
    }
}
