/** Promises 10, 13, 14 and 23 to 26 on ordinary inputs: item, insert, remove, unfit, digitsWith, product, bestModel. */
public final class MessageTest {
    public static void main(String[] args) {
        item();
        insert();
        remove();
        unfit();
        digitsWith();
        product();
        bestModel();
        Check.finish();
    }

    private static void item() {
        AliasStreams x = Check.loaded("A8m0101010101010101m0101010101010101m0101010101010101:a2h1b0");
        int[] want = {0, 12, 7, 11, 1, 10};
        for (int i = 0; i < want.length; i++) {
            Check.due("10: item(" + i + ")", x.item(i), want[i]);
        }
    }

    private static void insert() {
        AliasStreams x = Check.loaded("A2m0101m0101");
        Check.due("13: insert into nothing", x.insert(0, 1), 1);
        Check.due("13: insert at the beginning", x.insert(0, 11), 2);
        Check.due("13: insert at the end", x.insert(2, 0), 3);
        Check.due("13: insert between", x.insert(1, 10), 4);
        Check.same("13: the message", Check.message(x), "10ba");
        Check.due("13: its symbols", x.about(3), 2);
        Check.due("13: each is an action", x.undo(), 3);
        Check.same("13: undone", Check.message(x), "1ba");
        for (int i = 3; i < 40; i++) {
            Check.due("13: up to forty items", x.insert(i, 0), i + 1);
        }
    }

    private static void remove() {
        AliasStreams x = Check.loaded("A3m010101m010101:a1bc");
        Check.due("14: remove(1)", x.remove(1), 11);
        Check.same("14: the rest", Check.message(x), "abc");
        Check.due("14: remove(2)", x.remove(2), 2);
        Check.due("14: remove(0)", x.remove(0), 0);
        Check.same("14: the rest", Check.message(x), "b");
        Check.due("14: the last item", x.remove(0), 1);
        Check.due("14: four actions", x.undo(), 3);
        Check.due("14: four actions", x.undo(), 2);
        Check.same("14: undone", Check.message(x), "ab");
        AliasStreams full = Check.loaded("A2m0101:" + "ab".repeat(20));
        Check.due("14: from a full message", full.remove(39), 1);
        Check.due("14: from a full message", full.remove(0), 0);
        Check.same("14: the rest", Check.message(full), "ba".repeat(19));
    }

    private static void unfit() {
        Check.due("23: no message", new AliasStreams().unfit(), -9);
        Check.due("23: all fit", Check.loaded("A2m0101m0001:ab1b").unfit(), -9);
        Check.due("23: symbols are counted, not items", Check.loaded("A2m0101m0001:0a1b0a1ba").unfit(), 4);
        Check.due("23: the first symbol", Check.loaded("A2m0001:ab").unfit(), 0);
        AliasStreams x = Check.loaded("A2m0101:abb");
        x.setCount(0, 1, 0);
        Check.due("23: with the counts as they are", x.unfit(), 1);
    }

    private static void digitsWith() {
        AliasStreams x = Check.loaded("A2m0101m0199m0001:1aaaa0aaaa");
        Check.due("24: with model 0", x.digitsWith(0), 2);
        Check.due("24: with model 1", x.digitsWith(1), 10);
        Check.due("24: with model 2", x.digitsWith(2), -9);
        Check.due("24: the tape stays", x.about(5), 0);
        Check.due("24: no message", Check.loaded("A2m0001:0").digitsWith(0), 0);
        Check.due("24: the most digits", Check.loaded("A2m0199:" + "a".repeat(40)).digitsWith(0), 50);
    }

    private static void product() {
        AliasStreams x = Check.loaded("A3m010203m000100:a1bcb0" + "b".repeat(12));
        Check.due("25: one factor", x.product(0, 0, 1), 5);
        Check.due("25: with model 0, whatever the changes", x.product(0, 0, 4), 5 * 11 * 16 * 11);
        Check.due("25: from the third symbol on", x.product(0, 2, 2), 16 * 11);
        Check.due("25: with a 0", x.product(1, 0, 2), 0);
        Check.due("25: twelve factors", x.product(1, 4, 12), 1L << 60);
        Check.due("25: only those that there are", x.product(1, 14, 12), 32 * 32);
        Check.due("25: symbol 15", x.product(0, 15, 1), 11);
    }

    private static void bestModel() {
        AliasStreams x = Check.loaded("A2m0101m0199m9901:abbba");
        Check.due("26: one a", x.bestModel(0, 1), 2);
        Check.due("26: one b", x.bestModel(1, 1), 1);
        Check.due("26: ab", x.bestModel(0, 2), 0);
        Check.due("26: three b", x.bestModel(1, 3), 1);
        Check.due("26: a at the end", x.bestModel(4, 12), 2);
        AliasStreams y = Check.loaded("A2m0001m0001m0002:aab");
        Check.due("26: all products 0", y.bestModel(0, 3), 0);
        Check.due("26: alike", y.bestModel(2, 1), 0);
        AliasStreams z = Check.loaded("A2m0101m0199m0299:b");
        Check.due("26: alike, and better than the first", z.bestModel(0, 1), 1);
        Check.write(z, "A2m9901:b");
        z.load();
        Check.due("26: models of an earlier text do not count", z.bestModel(0, 1), 0);
    }
}
