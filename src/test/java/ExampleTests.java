/** The three examples of the document. */
public final class ExampleTests {
    private static final Due due = new Due();

    public static void main(String[] args) {
        sharing();
        equalHashes();
        texts();
        due.close();
    }

    private static void sharing() {
        due.part("example 1");
        TrieVersions x = new TrieVersions();
        due.is("put(0, 1, 10)", x.put(0, 1, 10), 1);
        due.is("put(1, 33, 20)", x.put(1, 33, 20), 2);
        due.is("put(2, 2, 30)", x.put(2, 2, 30), 3);
        due.is("about(3, 1)", x.about(3, 1), 5);
        due.is("about(3, 5)", x.about(3, 5), 2);
        due.is("shared(2, 3)", x.shared(2, 3), 3);
        due.is("node(3, 0, 4)", x.node(3, 0, 4), 6);
        due.is("entry(3, 1, 0)", x.entry(3, 1, 0), 33);
        due.is("put(3, 1, 10)", x.put(3, 1, 10), 4);
        due.is("shared(3, 4)", x.shared(3, 4), 5);
        due.is("remove(4, 33)", x.remove(4, 33), 5);
        due.is("shared(5, 1)", x.shared(5, 1), 1);
        due.is("both(3, 2, 2)", x.both(3, 2, 2), 6);
        due.is("two(3, 5, 3)", x.two(3, 5, 3), 1);
        due.is("chosen(3, 20, 10)", x.chosen(3, 20, 10), 7);
        due.is("count(1)", x.count(1), 8);
    }

    private static void equalHashes() {
        due.part("example 2");
        TrieVersions x = new TrieVersions();
        due.is("scheme(1, 3)", x.scheme(1, 3), 0);
        due.is("put(0, 1, 5)", x.put(0, 1, 5), 1);
        due.is("put(1, 9, 6)", x.put(1, 9, 6), 2);
        due.is("node(2, 0, 0)", x.node(2, 0, 0), 1);
        due.is("begin(2)", x.begin(2), 2);
        due.is("set(9, 7)", x.set(9, 7), 2);
        due.is("edit(2)", x.edit(2), 1);
        due.is("set(9, 8)", x.set(9, 8), 2);
        due.is("edit(3)", x.edit(3), 1);
        due.is("set(2, 1)", x.set(2, 1), 3);
        due.is("edit(1)", x.edit(1), 3);
        due.is("edit(2)", x.edit(2), 3);
        due.is("seal()", x.seal(), 3);
        due.is("get(3, 9)", x.get(3, 9), 8);
        due.is("get(2, 9)", x.get(2, 9), 6);
        due.is("scheme(2, 9)", x.scheme(2, 9), -102);
    }

    private static void texts() {
        due.part("example 3");
        TrieVersions x = new TrieVersions();
        int[] codes = {55, 61, 51, 59, 55, 61, 48, 52};
        for (int i = 0; i < codes.length; i++) {
            due.is("letter(" + codes[i] + ")", x.letter(codes[i]), i + 1);
        }
        due.is("fault()", x.fault(), 7);
        due.is("read()", x.read(), -103);
        due.is("blank()", x.blank(), 8);
        due.is("read()", x.read(), 1);
        due.is("about(1, 5)", x.about(1, 5), -1);
        due.is("forget()", x.forget(), 1);
        due.is("forget()", x.forget(), -103);
    }
}
