/** For each promise of the document its ordinary inputs, its edges and its wrong inputs. */
public final class PromiseTests {
    private static final int NONE = -1, UNKNOWN = -101, OUTSIDE = -102, STATE = -103, FULL = -104;
    private static final int LEAST = Integer.MIN_VALUE, MOST = Integer.MAX_VALUE;
    private static final Due due = new Due();

    public static void main(String[] args) {
        newObject();
        letter();
        blank();
        fault();
        read();
        readMakesLikeAnEdit();
        scheme();
        hash();
        put();
        putShares();
        remove();
        both();
        bothShares();
        chosen();
        forget();
        begin();
        set();
        setChangesInPlace();
        unset();
        seal();
        leave();
        edit();
        get();
        about();
        node();
        entry();
        shared();
        two();
        count();
        digest();
        errorsChangeNothing();
        due.close();
    }

    private static int write(TrieVersions x, String text) {
        int last = 0;
        for (char sign : text.toCharArray()) {
            last = x.letter(sign);
        }
        return last;
    }

    private static int map(TrieVersions x, String text) {
        x.blank();
        write(x, text);
        return x.read();
    }

    /** A version with so many entries, of keys that are multiples of step, made in an edit. */
    private static int filled(TrieVersions x, int entries, int step) {
        x.begin(0);
        for (int i = 0; i < entries; i++) {
            x.set(i * step, i);
        }
        return x.seal();
    }

    private static void fillVersions(TrieVersions x) {
        for (int version = x.count(0); version < 20; version++) {
            x.remove(0, 0);
        }
    }

    private static void newObject() {
        due.part("promise 1");
        TrieVersions x = new TrieVersions();
        int[] counts = {1, 0, 0, 0, 0, 0, 0, 1, 30};
        for (int what = 0; what < counts.length; what++) {
            due.is("count(" + what + ")", x.count(what), counts[what]);
        }
        due.is("about(0, 0)", x.about(0, 0), 0);
        due.is("about(1, 0)", x.about(1, 0), UNKNOWN);
        due.is("edit(0)", x.edit(0), STATE);
        due.is("blank()", x.blank(), 0);
        TrieVersions y = new TrieVersions();
        y.put(0, 1, 1);
        y.letter('1');
        due.is("count(0) of another object", x.count(0), 1);
        due.is("count(3) of another object", x.count(3), 0);
    }

    private static void letter() {
        due.part("promise 2");
        TrieVersions x = new TrieVersions();
        for (int code : new int[] {31, 127, 0, -1, LEAST, MOST}) {
            due.is("letter(" + code + ")", x.letter(code), OUTSIDE);
        }
        due.is("letter(32)", x.letter(32), 1);
        due.is("letter(126)", x.letter(126), 2);
        for (int length = 3; length <= 60; length++) {
            due.is("letter(49) as number " + length, x.letter(49), length);
        }
        due.is("letter(49) on a full page", x.letter(49), FULL);
        due.is("letter(31) on a full page", x.letter(31), OUTSIDE);
        due.is("count(3)", x.count(3), 60);
    }

    private static void blank() {
        due.part("promise 3");
        TrieVersions x = new TrieVersions();
        due.is("blank() of an empty page", x.blank(), 0);
        write(x, "1=2;x");
        due.is("blank()", x.blank(), 5);
        due.is("blank() again", x.blank(), 0);
        due.is("count(3)", x.count(3), 0);
        due.is("letter(49) afterwards", x.letter(49), 1);
        due.is("fault() afterwards", x.fault(), 1);
    }

    private static void faultOf(String text, int want) {
        TrieVersions x = new TrieVersions();
        write(x, text);
        due.is("fault() of '" + text + "'", x.fault(), want);
        due.is("fault() again of '" + text + "'", x.fault(), want);
        due.is("count(3) for '" + text + "'", x.count(3), text.length());
    }

    private static void fault() {
        due.part("promise 4");
        String[] right = {"", "0", "1", "4095", "0=", "1=0", "1=999", "4095=999", "1=2;", "1=2;3", "1=2;3=", "1=2;3=4",
            "0=0;0=0;0=1", "409", "1=99"};
        for (String text : right) {
            faultOf(text, text.length());
        }
        String[] wrongAtTheEnd = {"=", ";", "x", " ", "-", "+", "00", "01", "4096", "5000", "40950", "1;", "1==", "1=;",
            "1= ", "1=00", "1=01", "1=1000", "1=9990", "1=2=", "1=2;;", "1=2;=", "1=2;00", "1=2;4096", "1/", "1:",
            "1=2,", "1=2/", "1=2:", "9999"};
        for (String text : wrongAtTheEnd) {
            faultOf(text, text.length() - 1);
            faultOf(text + "1=2", text.length() - 1);
        }
        faultOf("0=0;".repeat(15), 60);
    }

    private static void readOf(String text, boolean isMap) {
        TrieVersions x = new TrieVersions();
        write(x, text);
        due.is("read() of '" + text + "'", x.read(), isMap ? 1 : STATE);
        due.is("count(3) after '" + text + "'", x.count(3), isMap ? 0 : text.length());
        due.is("count(4) after '" + text + "'", x.count(4), isMap ? 1 : 0);
        due.is("count(0) after '" + text + "'", x.count(0), isMap ? 2 : 1);
    }

    private static void read() {
        due.part("promise 5");
        for (String text : new String[] {"", "0=0", "4095=999", "1=2;3=4", "1=2;1=3"}) {
            readOf(text, true);
        }
        for (String text : new String[] {"1", "1=", "1=2;", "1=2;3", "1=2;3=", " ", "01=2", "1=02", "1=2;;3=4", "4096=1"}) {
            readOf(text, false);
        }
        TrieVersions x = new TrieVersions();
        due.is("read() with a key twice", map(x, "7=1;8=2;7=3"), 1);
        due.is("about(1, 0)", x.about(1, 0), 2);
        due.is("get(1, 7)", x.get(1, 7), 3);
        due.is("get(1, 8)", x.get(1, 8), 2);
        due.is("read() of fourteen entries",
            map(x, "1=1;2=2;3=3;4=4;5=5;6=6;7=7;8=8;9=9;0=0;11=1;12=2;13=3;14=4"), 2);
        due.is("about(2, 0)", x.about(2, 0), 14);
        due.is("count(4)", x.count(4), 2);
        due.is("count(5)", x.count(5), 0);
        fillVersions(x);
        write(x, "1=2");
        due.is("read() with 20 versions", x.read(), FULL);
        due.is("count(3)", x.count(3), 3);
        write(x, ";");
        due.is("read() of no map with 20 versions", x.read(), STATE);
        due.is("count(4)", x.count(4), 2);
    }

    private static void readMakesLikeAnEdit() {
        due.part("promise 5");
        TrieVersions x = new TrieVersions();
        due.is("read()", map(x, "5=1"), 1);
        due.is("count(1)", x.count(1), 1);
        due.is("read() of an equal map", map(x, "5=1"), 2);
        due.is("shared(2, 1)", x.shared(2, 1), 0);
        due.is("count(1) then", x.count(1), 2);
        due.is("read() that changes its own leaf", map(x, "5=1;5=2;5=3"), 3);
        due.is("count(1) then", x.count(1), 3);
        due.is("scheme(1, 3)", x.scheme(1, 3), 3);
        // A leaf, then a clash in its stead, then a branch above the clash with another leaf.
        due.is("read() with a clash", map(x, "1=1;9=2;2=3"), 1);
        due.is("about(1, 1)", x.about(1, 1), 3);
        due.is("count(1) with the leaf that is gone", x.count(1), 7);
        due.is("begin(1)", x.begin(1), 3);
        due.is("set(2, 4)", x.set(2, 4), 3);
        due.is("read() beside an open edit", map(x, "3=3"), 2);
        due.is("edit(0)", x.edit(0), 3);
        due.is("edit(1)", x.edit(1), 3);
        due.is("edit(2)", x.edit(2), 2);
        due.is("edit(3)", x.edit(3), 2);
        due.is("set(2, 5)", x.set(2, 5), 3);
        due.is("edit(3) then", x.edit(3), 2);
        due.is("seal()", x.seal(), 3);
        due.is("get(3, 2)", x.get(3, 2), 5);
        due.is("get(2, 3)", x.get(2, 3), 3);
        due.is("get(2, 2)", x.get(2, 2), NONE);
    }

    private static void scheme() {
        due.part("promise 6");
        TrieVersions x = new TrieVersions();
        for (int factor : new int[] {0, 2, -1, 65534, 65536, 65537, LEAST, MOST}) {
            due.is("scheme(" + factor + ", 10)", x.scheme(factor, 10), OUTSIDE);
        }
        for (int width : new int[] {2, 31, 0, -3, LEAST, MOST}) {
            due.is("scheme(3, " + width + ")", x.scheme(3, width), OUTSIDE);
        }
        due.is("count(7)", x.count(7), 1);
        due.is("count(8)", x.count(8), 30);
        map(x, "1=1;2=2");
        filled(x, 3, 1);
        x.put(1, 5, 5);
        x.begin(2);
        x.set(9, 9);
        write(x, "12");
        int made = x.count(1);
        due.is("scheme(2, 3) with versions", x.scheme(2, 3), OUTSIDE);
        due.is("count(0)", x.count(0), 4);
        due.is("count(6)", x.count(6), 1);
        due.is("scheme(65535, 3)", x.scheme(65535, 3), 3);
        int[] counts = {1, made, 0, 2, 1, 1, 0, 65535, 3};
        for (int what = 0; what < counts.length; what++) {
            due.is("count(" + what + ") then", x.count(what), counts[what]);
        }
        due.is("edit(0)", x.edit(0), STATE);
        due.is("about(1, 0)", x.about(1, 0), UNKNOWN);
        due.is("about(0, 0)", x.about(0, 0), 0);
        due.is("scheme(1, 30)", x.scheme(1, 30), 0);
        due.is("put(0, 1, 1)", x.put(0, 1, 1), 1);
        due.is("scheme(1, 30) again", x.scheme(1, 30), 1);
        due.is("count(0)", x.count(0), 1);
    }

    private static void hash() {
        due.part("promise 7");
        TrieVersions x = new TrieVersions();
        due.is("hash(0)", x.hash(0), 0);
        due.is("hash(4095)", x.hash(4095), 4095);
        for (int key : new int[] {-1, 4096, LEAST, MOST}) {
            due.is("hash(" + key + ")", x.hash(key), OUTSIDE);
        }
        x.scheme(65535, 30);
        due.is("hash(4095) with 65535", x.hash(4095), 268365825);
        x.scheme(65535, 16);
        due.is("hash(1) with 65535, 16", x.hash(1), 65535);
        due.is("hash(2) with 65535, 16", x.hash(2), 65534);
        x.scheme(5, 3);
        due.is("hash(7) with 5, 3", x.hash(7), 3);
        due.is("hash(8) with 5, 3", x.hash(8), 0);
    }

    private static void put() {
        due.part("promise 8");
        TrieVersions x = new TrieVersions();
        due.is("put(1, 1, 1)", x.put(1, 1, 1), UNKNOWN);
        due.is("put(-1, 1, 1)", x.put(-1, 1, 1), UNKNOWN);
        due.is("put(MOST, -1, -1)", x.put(MOST, -1, -1), UNKNOWN);
        for (int key : new int[] {-1, 4096, LEAST, MOST}) {
            due.is("put(0, " + key + ", 1)", x.put(0, key, 1), OUTSIDE);
        }
        for (int value : new int[] {-1, 1000, LEAST, MOST}) {
            due.is("put(0, 1, " + value + ")", x.put(0, 1, value), OUTSIDE);
        }
        due.is("put(0, 0, 0)", x.put(0, 0, 0), 1);
        due.is("put(1, 4095, 999)", x.put(1, 4095, 999), 2);
        due.is("put(2, 0, 7)", x.put(2, 0, 7), 3);
        due.is("get(1, 0)", x.get(1, 0), 0);
        due.is("get(1, 4095)", x.get(1, 4095), NONE);
        due.is("get(2, 4095)", x.get(2, 4095), 999);
        due.is("get(2, 0)", x.get(2, 0), 0);
        due.is("get(3, 0)", x.get(3, 0), 7);
        due.is("get(0, 0)", x.get(0, 0), NONE);
        int full = filled(x, 24, 1);
        due.is("put of a 25th key", x.put(full, 24, 1), FULL);
        due.is("put of a 25th key out of range", x.put(full, 4096, 1), OUTSIDE);
        due.is("put of the last of 24 keys", x.put(full, 23, 500), full + 1);
        due.is("get of it", x.get(full + 1, 23), 500);
        due.is("entries", x.about(full + 1, 0), 24);
        due.is("put of the first of 24 keys", x.put(full, 0, 501), full + 2);
        due.is("get of it", x.get(full + 2, 0), 501);
        fillVersions(x);
        due.is("put with 20 versions", x.put(0, 1, 1), FULL);
        due.is("put with 20 versions, wrong value", x.put(0, 1, 1000), OUTSIDE);
        due.is("put with 20 versions, wrong version", x.put(20, 1, 1), UNKNOWN);
        due.is("count(0)", x.count(0), 20);
    }

    private static void putShares() {
        due.part("promise 8");
        TrieVersions x = new TrieVersions();
        x.put(0, 1, 10);
        x.put(1, 33, 20);
        due.is("count(1)", x.count(1), 4);
        due.is("shared(2, 1)", x.shared(2, 1), 1);
        due.is("put of the same value", x.put(2, 33, 20), 3);
        due.is("count(1) then", x.count(1), 4);
        due.is("shared(3, 2)", x.shared(3, 2), 4);
        due.is("put of another value", x.put(2, 33, 21), 4);
        due.is("count(1) then", x.count(1), 7);
        due.is("shared(4, 2)", x.shared(4, 2), 1);
        due.is("put of the value before", x.put(4, 33, 20), 5);
        due.is("shared(5, 2): only what version 4 has", x.shared(5, 2), 1);
        due.is("count(1) then", x.count(1), 10);
    }

    private static void remove() {
        due.part("promise 9");
        TrieVersions x = new TrieVersions();
        map(x, "1=1;33=2;2=3");
        int made = x.count(1);
        due.is("remove(2, 1)", x.remove(2, 1), UNKNOWN);
        due.is("remove(-1, -1)", x.remove(-1, -1), UNKNOWN);
        for (int key : new int[] {-1, 4096, LEAST, MOST}) {
            due.is("remove(1, " + key + ")", x.remove(1, key), OUTSIDE);
        }
        due.is("remove of a key that is not there", x.remove(1, 3), 2);
        due.is("shared(2, 1)", x.shared(2, 1), 5);
        due.is("count(1)", x.count(1), made);
        due.is("remove(1, 33)", x.remove(1, 33), 3);
        due.is("about(3, 0)", x.about(3, 0), 2);
        due.is("about(3, 1)", x.about(3, 1), 3);
        due.is("get(3, 33)", x.get(3, 33), NONE);
        due.is("get(1, 33)", x.get(1, 33), 2);
        due.is("a leaf that rises is the same", x.shared(3, 1), 2);
        due.is("count(1) then", x.count(1), made + 1);
        due.is("remove(0, 0)", x.remove(0, 0), 4);
        due.is("about(4, 0)", x.about(4, 0), 0);
        x.remove(3, 1);
        due.is("remove of the last key", x.remove(5, 2), 6);
        due.is("about(6, 1)", x.about(6, 1), 0);
        fillVersions(x);
        due.is("remove with 20 versions", x.remove(1, 1), FULL);
        due.is("remove of a wrong key with 20 versions", x.remove(1, 4096), OUTSIDE);
        due.is("remove from a wrong version with 20 versions", x.remove(20, 1), UNKNOWN);
    }

    private static void entriesAre(TrieVersions x, int version, int... keysAndValues) {
        due.is("about(" + version + ", 0)", x.about(version, 0), keysAndValues.length / 2);
        for (int i = 0; i < keysAndValues.length; i += 2) {
            int key = keysAndValues[i];
            due.is("get(" + version + ", " + key + ")", x.get(version, key), keysAndValues[i + 1]);
        }
    }

    private static void both() {
        due.part("promise 10");
        TrieVersions x = new TrieVersions();
        map(x, "1=1;2=2;3=3");
        map(x, "3=30;4=40;2=2");
        due.is("both(3, 1, 0)", x.both(3, 1, 0), UNKNOWN);
        due.is("both(1, 3, 0)", x.both(1, 3, 0), UNKNOWN);
        due.is("both(1, -1, 9)", x.both(1, -1, 9), UNKNOWN);
        for (int how : new int[] {-1, 3, LEAST, MOST}) {
            due.is("both(1, 2, " + how + ")", x.both(1, 2, how), OUTSIDE);
        }
        due.is("both(1, 2, 0)", x.both(1, 2, 0), 3);
        entriesAre(x, 3, 1, 1, 2, 2, 3, 3, 4, 40);
        due.is("both(2, 1, 0)", x.both(2, 1, 0), 4);
        entriesAre(x, 4, 1, 1, 2, 2, 3, 30, 4, 40);
        due.is("both(1, 2, 1)", x.both(1, 2, 1), 5);
        entriesAre(x, 5, 2, 2, 3, 3);
        due.is("both(2, 1, 1)", x.both(2, 1, 1), 6);
        entriesAre(x, 6, 2, 2, 3, 30);
        due.is("both(1, 2, 2)", x.both(1, 2, 2), 7);
        entriesAre(x, 7, 1, 1);
        due.is("both(2, 1, 2)", x.both(2, 1, 2), 8);
        entriesAre(x, 8, 4, 40);
        for (int how = 0; how <= 2; how++) {
            due.is("both(1, 1, " + how + ")", x.both(1, 1, how), 9 + how);
            due.is("about(" + (9 + how) + ", 0)", x.about(9 + how, 0), how == 2 ? 0 : 3);
        }
        due.is("read()", map(x, "1=100;2=200;3=300"), 12);
        due.is("both(1, 12, 0)", x.both(1, 12, 0), 13);
        entriesAre(x, 13, 1, 1, 2, 2, 3, 3);
        x.forget();
        due.is("both(7, 1, 1) with the number of a version that is gone", x.both(7, 1, 1), 13);
        entriesAre(x, 13, 1, 1);
        due.is("both(7, 12, 2)", x.both(7, 12, 2), 14);
        due.is("both(8, 7, 2)", x.both(8, 7, 2), 15);
        entriesAre(x, 15, 4, 40);
        x.forget();
        x.forget();
        x.forget();
        x.forget();
        int full = filled(x, 24, 2);
        int odd = map(x, "1=5");
        int even = map(x, "2=5");
        due.is("both to 25 entries", x.both(full, odd, 0), FULL);
        due.is("both to 25 entries, turned round", x.both(odd, full, 0), FULL);
        due.is("both to 25 entries, wrong how", x.both(odd, full, 3), OUTSIDE);
        due.is("both to 24 entries", x.both(full, even, 0), even + 1);
        due.is("both without", x.both(full, odd, 2), even + 2);
        due.is("both with", x.both(full, odd, 1), even + 3);
        fillVersions(x);
        due.is("both with 20 versions", x.both(1, 2, 1), FULL);
        due.is("both with 20 versions, wrong how", x.both(1, 2, 3), OUTSIDE);
        due.is("both with 20 versions, wrong version", x.both(1, 20, 0), UNKNOWN);
    }

    private static void bothShares() {
        due.part("promise 10");
        TrieVersions x = new TrieVersions();
        // Versions 1 and 2 have equal leaves for 1 and 33, which are not the same.
        map(x, "1=1;33=2;2=3");
        map(x, "1=1;33=2");
        int made = x.count(1);
        due.is("both(2, 1, 0)", x.both(2, 1, 0), 3);
        due.is("its root is that of version 1", x.shared(3, 1), 5);
        due.is("and all below it too", x.shared(3, 2), 0);
        due.is("both(1, 2, 1)", x.both(1, 2, 1), 4);
        due.is("its root is that of version 2", x.shared(4, 2), 4);
        due.is("and all below it too, though version 1 has equal nodes", x.shared(4, 1), 0);
        due.is("count(1)", x.count(1), made);
        map(x, "1=1;64=4");
        made = x.count(1);
        due.is("both(2, 5, 0)", x.both(2, 5, 0), 6);
        due.is("a leaf that both have is that of the first", x.shared(6, 2), 3);
        due.is("a leaf that the second has is that one", x.shared(6, 5), 1);
        due.is("count(1) with the root", x.count(1), made + 1);
    }

    private static void chosen() {
        due.part("promise 11");
        TrieVersions x = new TrieVersions();
        map(x, "1=10;33=20;2=30;3=999;4=0");
        due.is("chosen(2, 1, 0)", x.chosen(2, 1, 0), UNKNOWN);
        due.is("chosen(-1, 0, 0)", x.chosen(-1, 0, 0), UNKNOWN);
        for (int by : new int[] {0, -1, 1000, LEAST, MOST}) {
            due.is("chosen(1, " + by + ", 0)", x.chosen(1, by, 0), OUTSIDE);
        }
        for (int rest : new int[] {-1, 10, 11, LEAST, MOST}) {
            due.is("chosen(1, 10, " + rest + ")", x.chosen(1, 10, rest), OUTSIDE);
        }
        int made = x.count(1);
        due.is("chosen(1, 1, 0)", x.chosen(1, 1, 0), 2);
        due.is("about(2, 0)", x.about(2, 0), 5);
        due.is("shared(2, 1)", x.shared(2, 1), x.about(1, 1));
        due.is("count(1)", x.count(1), made);
        due.is("chosen(1, 20, 10)", x.chosen(1, 20, 10), 3);
        entriesAre(x, 3, 1, 10, 2, 30);
        due.is("shared(3, 1)", x.shared(3, 1), 2);
        due.is("chosen(1, 999, 0)", x.chosen(1, 999, 0), 4);
        entriesAre(x, 4, 3, 999, 4, 0);
        due.is("chosen(1, 999, 998)", x.chosen(1, 999, 998), 5);
        entriesAre(x, 5);
        due.is("chosen(0, 2, 1)", x.chosen(0, 2, 1), 6);
        x.put(1, 9, 9);
        x.forget();
        due.is("chosen(1, 999, 20) with the number of a version that is gone", x.chosen(1, 999, 20), 7);
        entriesAre(x, 7, 33, 20);
        fillVersions(x);
        due.is("chosen with 20 versions", x.chosen(1, 1, 0), FULL);
        due.is("chosen with 20 versions, wrong rest", x.chosen(1, 1, 1), OUTSIDE);
        due.is("chosen with 20 versions, wrong version", x.chosen(20, 1, 0), UNKNOWN);
    }

    private static void forget() {
        due.part("promise 12");
        TrieVersions x = new TrieVersions();
        due.is("forget() of version 0", x.forget(), STATE);
        x.put(0, 1, 1);
        x.put(1, 2, 2);
        due.is("begin(2)", x.begin(2), 2);
        due.is("forget()", x.forget(), 2);
        due.is("about(2, 0)", x.about(2, 0), UNKNOWN);
        due.is("get(1, 1)", x.get(1, 1), 1);
        due.is("edit(0)", x.edit(0), 2);
        due.is("put(0, 5, 5) gets the number again", x.put(0, 5, 5), 2);
        due.is("forget()", x.forget(), 2);
        due.is("set(1, 1)", x.set(1, 1), 2);
        due.is("edit(2)", x.edit(2), 0);
        due.is("seal()", x.seal(), 2);
        due.is("shared(2, 1)", x.shared(2, 1), 1);
        due.is("count(2)", x.count(2), 3);
        due.is("forget()", x.forget(), 2);
        due.is("forget()", x.forget(), 1);
        due.is("forget() at the end", x.forget(), STATE);
        due.is("count(0)", x.count(0), 1);
        due.is("count(2)", x.count(2), 0);
        due.is("read() of nothing", x.read(), 1);
        due.is("about(1, 0)", x.about(1, 0), 0);
        due.is("about(1, 1)", x.about(1, 1), 0);
        due.is("count(2)", x.count(2), 0);
    }

    private static void begin() {
        due.part("promise 13");
        TrieVersions x = new TrieVersions();
        map(x, "1=1;2=2");
        due.is("begin(2)", x.begin(2), UNKNOWN);
        due.is("begin(-1)", x.begin(-1), UNKNOWN);
        due.is("count(6)", x.count(6), 0);
        due.is("begin(1)", x.begin(1), 2);
        due.is("count(6)", x.count(6), 1);
        int[] figures = {2, 3, 0, 0};
        for (int what = 0; what <= 3; what++) {
            due.is("edit(" + what + ")", x.edit(what), figures[what]);
        }
        due.is("begin(1) again", x.begin(1), STATE);
        due.is("begin(0)", x.begin(0), STATE);
        due.is("begin(2) in an edit", x.begin(2), UNKNOWN);
        x.set(3, 3);
        x.leave();
        due.is("begin(0) afterwards", x.begin(0), 0);
        due.is("edit(1)", x.edit(1), 0);
        due.is("edit(3) counts from the beginning", x.edit(3), 0);
    }

    private static void set() {
        due.part("promise 14");
        TrieVersions x = new TrieVersions();
        due.is("set(1, 1) without an edit", x.set(1, 1), STATE);
        due.is("set(-1, 1) without an edit", x.set(-1, 1), STATE);
        x.begin(0);
        for (int wrong : new int[] {-1, LEAST, MOST}) {
            due.is("set(" + wrong + ", 1)", x.set(wrong, 1), OUTSIDE);
            due.is("set(1, " + wrong + ")", x.set(1, wrong), OUTSIDE);
        }
        due.is("set(4096, 1)", x.set(4096, 1), OUTSIDE);
        due.is("set(1, 1000)", x.set(1, 1000), OUTSIDE);
        due.is("set(4095, 999)", x.set(4095, 999), 1);
        due.is("set(4095, 0)", x.set(4095, 0), 1);
        for (int key = 0; key < 23; key++) {
            due.is("set(" + key + ", 0)", x.set(key, 0), key + 2);
        }
        due.is("set of a 25th key", x.set(23, 0), FULL);
        due.is("set of a 25th key with a wrong value", x.set(23, 1000), OUTSIDE);
        due.is("set of the last of 24 keys", x.set(22, 5), 24);
        due.is("set of the first of 24 keys", x.set(0, 0), 24);
        fillVersions(x);
        due.is("set with 20 versions", x.set(22, 6), 24);
        x.forget();
        due.is("seal()", x.seal(), 19);
        due.is("get(19, 22)", x.get(19, 22), 6);
        due.is("get(19, 23)", x.get(19, 23), NONE);
        due.is("get(19, 4095)", x.get(19, 4095), 0);
    }

    private static void figures(TrieVersions x, String call, int nodes, int own, int made) {
        due.is("edit(1) after " + call, x.edit(1), nodes);
        due.is("edit(2) after " + call, x.edit(2), own);
        due.is("edit(3) after " + call, x.edit(3), made);
    }

    private static void setChangesInPlace() {
        due.part("promise 14");
        TrieVersions x = new TrieVersions();
        map(x, "1=1;33=2;2=3");
        int made = x.count(1);
        x.begin(1);
        x.set(33, 2);
        figures(x, "set(33, 2), no change", 5, 0, 0);
        x.set(33, 5);
        figures(x, "set(33, 5)", 5, 3, 3);
        x.set(33, 6);
        figures(x, "set(33, 6)", 5, 3, 3);
        x.set(33, 2);
        figures(x, "set(33, 2), which an own leaf has then", 5, 3, 3);
        x.set(2, 4);
        figures(x, "set(2, 4)", 5, 4, 4);
        x.set(65, 1);
        figures(x, "set(65, 1)", 6, 5, 5);
        x.unset(33);
        figures(x, "unset(33)", 5, 4, 5);
        x.unset(65);
        figures(x, "unset(65): the branch at level 1 is gone", 3, 2, 5);
        x.set(33, 9);
        figures(x, "set(33, 9): it is made again", 5, 4, 7);
        due.is("count(1)", x.count(1), made + 7);
        due.is("seal()", x.seal(), 2);
        due.is("shared(2, 1): the leaf of 1 alone", x.shared(2, 1), 1);
        due.is("get(1, 33)", x.get(1, 33), 2);
        due.is("get(1, 2)", x.get(1, 2), 3);
        due.is("begin(2): nodes of a sealed edit are not own", x.begin(2), 3);
        figures(x, "begin(2)", 5, 0, 0);
        x.set(33, 1);
        figures(x, "set(33, 1)", 5, 3, 3);
        x.set(33, 2);
        x.set(1, 3);
        due.is("get(2, 33)", x.get(2, 33), 9);
        due.is("get(2, 1)", x.get(2, 1), 1);
        due.is("seal()", x.seal(), 3);
        due.is("begin(0)", x.begin(0), 0);
        x.set(33, 4);
        x.set(1, 4);
        due.is("get(3, 33)", x.get(3, 33), 2);
        due.is("get(3, 1)", x.get(3, 1), 3);
    }

    private static void unset() {
        due.part("promise 15");
        TrieVersions x = new TrieVersions();
        due.is("unset(1) without an edit", x.unset(1), STATE);
        due.is("unset(4096) without an edit", x.unset(4096), STATE);
        x.scheme(1, 3);
        map(x, "1=1;9=2;17=3");
        x.begin(1);
        for (int key : new int[] {-1, 4096, LEAST, MOST}) {
            due.is("unset(" + key + ")", x.unset(key), OUTSIDE);
        }
        due.is("unset(2), which is not there", x.unset(2), 3);
        figures(x, "unset(2)", 1, 0, 0);
        due.is("unset(17)", x.unset(17), 2);
        figures(x, "unset(17)", 1, 1, 1);
        due.is("unset(17) again", x.unset(17), 2);
        figures(x, "unset(17) again", 1, 1, 1);
        due.is("set(25, 4) in its own clash", x.set(25, 4), 3);
        figures(x, "set(25, 4)", 1, 1, 1);
        due.is("unset(25)", x.unset(25), 2);
        due.is("unset(9), which leaves a leaf", x.unset(9), 1);
        figures(x, "unset(9)", 1, 1, 2);
        due.is("set(2, 2): a branch above two leaves", x.set(2, 2), 2);
        figures(x, "set(2, 2)", 3, 3, 4);
        due.is("set(9, 9): a clash below the branch", x.set(9, 9), 3);
        figures(x, "set(9, 9)", 3, 3, 5);
        due.is("unset(2): the clash rises", x.unset(2), 2);
        figures(x, "unset(2)", 1, 1, 5);
        due.is("unset(1)", x.unset(1), 1);
        due.is("unset(9)", x.unset(9), 0);
        figures(x, "unset(9)", 0, 0, 6);
        due.is("unset(9) of nothing", x.unset(9), 0);
        due.is("about(1, 0)", x.about(1, 0), 3);
    }

    private static void seal() {
        due.part("promise 16");
        TrieVersions x = new TrieVersions();
        due.is("seal() without an edit", x.seal(), STATE);
        x.begin(0);
        due.is("seal() of nothing", x.seal(), 1);
        due.is("about(1, 1)", x.about(1, 1), 0);
        due.is("count(5)", x.count(5), 1);
        due.is("count(6)", x.count(6), 0);
        due.is("seal() again", x.seal(), STATE);
        x.begin(1);
        x.set(1, 1);
        due.is("seal()", x.seal(), 2);
        due.is("count(5)", x.count(5), 2);
        x.begin(2);
        due.is("seal() of an unchanged edit", x.seal(), 3);
        due.is("shared(3, 2)", x.shared(3, 2), 1);
        due.is("count(1)", x.count(1), 1);
        x.begin(3);
        x.set(1, 2);
        fillVersions(x);
        due.is("seal() with 20 versions", x.seal(), FULL);
        due.is("count(6)", x.count(6), 1);
        due.is("count(5)", x.count(5), 3);
        due.is("edit(2)", x.edit(2), 1);
        x.forget();
        due.is("seal() with 19 versions", x.seal(), 19);
        due.is("get(19, 1)", x.get(19, 1), 2);
        due.is("seal() with 20 versions and no edit", x.seal(), STATE);
    }

    private static void leave() {
        due.part("promise 17");
        TrieVersions x = new TrieVersions();
        due.is("leave() without an edit", x.leave(), STATE);
        map(x, "1=1;2=2");
        x.begin(1);
        due.is("leave() at once", x.leave(), 0);
        x.begin(1);
        x.set(2, 3);
        x.set(3, 3);
        x.unset(3);
        due.is("edit(3)", x.edit(3), 3);
        due.is("leave() with two own nodes", x.leave(), 2);
        due.is("leave() again", x.leave(), STATE);
        due.is("count(0)", x.count(0), 2);
        due.is("count(1)", x.count(1), 3 + 3);
        due.is("count(2)", x.count(2), 3);
        due.is("count(5)", x.count(5), 0);
        due.is("count(6)", x.count(6), 0);
        due.is("get(1, 2)", x.get(1, 2), 2);
    }

    private static void edit() {
        due.part("promise 18");
        TrieVersions x = new TrieVersions();
        for (int what : new int[] {-1, 0, 3, 4}) {
            due.is("edit(" + what + ") without an edit", x.edit(what), STATE);
        }
        map(x, "1=1;33=2");
        x.begin(1);
        x.set(2, 2);
        for (int what : new int[] {-1, 4, LEAST, MOST}) {
            due.is("edit(" + what + ")", x.edit(what), OUTSIDE);
        }
        due.is("edit(0)", x.edit(0), 3);
        figures(x, "set(2, 2)", 5, 2, 2);
        x.unset(2);
        due.is("edit(0)", x.edit(0), 2);
        figures(x, "unset(2)", 4, 1, 2);
        x.unset(33);
        figures(x, "unset(33)", 1, 0, 2);
        due.is("put beside the edit", x.put(0, 7, 7), 2);
        figures(x, "put(0, 7, 7)", 1, 0, 2);
        x.set(1, 9);
        figures(x, "set(1, 9)", 1, 1, 3);
    }

    private static void get() {
        due.part("promise 19");
        TrieVersions x = new TrieVersions();
        map(x, "0=5;4095=0");
        due.is("get(1, 0)", x.get(1, 0), 5);
        due.is("get(1, 4095)", x.get(1, 4095), 0);
        due.is("get(1, 7)", x.get(1, 7), NONE);
        due.is("get(0, 0)", x.get(0, 0), NONE);
        due.is("get(0, 4096)", x.get(0, 4096), OUTSIDE);
        due.is("get(1, -1)", x.get(1, -1), OUTSIDE);
        due.is("get(2, -1)", x.get(2, -1), UNKNOWN);
        due.is("get(2, 0)", x.get(2, 0), UNKNOWN);
        due.is("get(LEAST, 0)", x.get(LEAST, 0), UNKNOWN);
    }

    private static void aboutIs(TrieVersions x, int version, int... figures) {
        for (int what = 0; what < figures.length; what++) {
            due.is("about(" + version + ", " + what + ")", x.about(version, what), figures[what]);
        }
    }

    private static void about() {
        due.part("promise 20");
        TrieVersions x = new TrieVersions();
        aboutIs(x, 0, 0, 0, 0, 0, 0, NONE);
        map(x, "1=1");
        aboutIs(x, 1, 1, 1, 1, 0, 0, 0);
        // 0 and 1024 part at level 2 only: branches at 0, 1 and 2, leaves at level 3.
        map(x, "0=1;1024=1");
        aboutIs(x, 2, 2, 5, 2, 0, 3, 3);
        due.is("about(2, 6)", x.about(2, 6), OUTSIDE);
        due.is("about(2, -1)", x.about(2, -1), OUTSIDE);
        due.is("about(0, 6)", x.about(0, 6), OUTSIDE);
        due.is("about(3, 0)", x.about(3, 0), UNKNOWN);
        due.is("about(-1, 9)", x.about(-1, 9), UNKNOWN);
        x.scheme(1, 5);
        map(x, "1=1;33=1;2=1;34=1;66=1;3=1");
        aboutIs(x, 1, 6, 4, 1, 2, 1, 1);
        // 67110912 is 2048 * 32769: its lowest bit is 11, so it parts from 0 at level 2.
        x.scheme(32769, 30);
        map(x, "0=0;2048=0");
        aboutIs(x, 1, 2, 5, 2, 0, 3, 3);
    }

    private static void nodeIs(TrieVersions x, int version, int place, int... figures) {
        for (int what = 0; what < figures.length; what++) {
            due.is("node(" + version + ", " + place + ", " + what + ")", x.node(version, place, what), figures[what]);
        }
    }

    private static void node() {
        due.part("promise 21");
        TrieVersions x = new TrieVersions();
        due.is("node(0, 0, 0)", x.node(0, 0, 0), UNKNOWN);
        map(x, "31=1;1=2;33=3;1055=4");
        // 31 and 1055 part at level 2, 1 and 33 at level 1.
        nodeIs(x, 1, 0, 2, 0, 4, 1, (1 << 1) | (1 << 31));
        nodeIs(x, 1, 1, 2, 1, 2, 1, 3);
        nodeIs(x, 1, 2, 0, 2, 1, 1, NONE);
        nodeIs(x, 1, 3, 0, 2, 1, 33, NONE);
        nodeIs(x, 1, 4, 2, 1, 2, 31, 1);
        nodeIs(x, 1, 5, 2, 2, 2, 31, 3);
        nodeIs(x, 1, 6, 0, 3, 1, 31, NONE);
        nodeIs(x, 1, 7, 0, 3, 1, 1055, NONE);
        for (int place : new int[] {-1, 8, LEAST, MOST}) {
            due.is("node(1, " + place + ", 0)", x.node(1, place, 0), UNKNOWN);
            due.is("node(1, " + place + ", 9)", x.node(1, place, 9), UNKNOWN);
        }
        for (int what : new int[] {-1, 5, LEAST, MOST}) {
            due.is("node(1, 0, " + what + ")", x.node(1, 0, what), OUTSIDE);
        }
        due.is("node(2, 0, 0)", x.node(2, 0, 0), UNKNOWN);
        due.is("node(-1, 0, 9)", x.node(-1, 0, 9), UNKNOWN);
        x.scheme(1, 3);
        map(x, "9=1;1=2;0=3");
        nodeIs(x, 1, 0, 2, 0, 3, 0, 3);
        nodeIs(x, 1, 1, 0, 1, 1, 0, NONE);
        nodeIs(x, 1, 2, 1, 1, 2, 1, NONE);
    }

    private static void entryIs(TrieVersions x, int version, int place, int... figures) {
        for (int what = 0; what < figures.length; what++) {
            due.is("entry(" + version + ", " + place + ", " + what + ")", x.entry(version, place, what), figures[what]);
        }
    }

    private static void entry() {
        due.part("promise 22");
        TrieVersions x = new TrieVersions();
        due.is("entry(0, 0, 0)", x.entry(0, 0, 0), UNKNOWN);
        map(x, "31=1;1=2;33=3;1055=4;5=6");
        entryIs(x, 1, 0, 1, 2, 2);
        entryIs(x, 1, 1, 33, 3, 2);
        entryIs(x, 1, 2, 5, 6, 1);
        entryIs(x, 1, 3, 31, 1, 3);
        entryIs(x, 1, 4, 1055, 4, 3);
        for (int place : new int[] {-1, 5, LEAST, MOST}) {
            due.is("entry(1, " + place + ", 0)", x.entry(1, place, 0), UNKNOWN);
            due.is("entry(1, " + place + ", 9)", x.entry(1, place, 9), UNKNOWN);
        }
        for (int what : new int[] {-1, 3, LEAST, MOST}) {
            due.is("entry(1, 0, " + what + ")", x.entry(1, 0, what), OUTSIDE);
        }
        due.is("entry(2, 0, 0)", x.entry(2, 0, 0), UNKNOWN);
        due.is("entry(-1, 0, 9)", x.entry(-1, 0, 9), UNKNOWN);
        x.scheme(1, 3);
        map(x, "17=1;1=2;9=3;0=4");
        entryIs(x, 1, 0, 0, 4, 1);
        entryIs(x, 1, 1, 1, 2, 1);
        entryIs(x, 1, 2, 9, 3, 1);
        entryIs(x, 1, 3, 17, 1, 1);
        // With the factor 3 the hashes of 11, 1 and 2 are 33, 3 and 6: the parts at level 0 are 1, 3 and 6.
        x.scheme(3, 30);
        map(x, "1=1;2=2;11=3");
        entryIs(x, 1, 0, 11, 3, 1);
        entryIs(x, 1, 1, 1, 1, 1);
        entryIs(x, 1, 2, 2, 2, 1);
    }

    private static void shared() {
        due.part("promise 23");
        TrieVersions x = new TrieVersions();
        due.is("shared(0, 0)", x.shared(0, 0), 0);
        map(x, "1=1;33=2");
        map(x, "1=1;33=2");
        due.is("shared(1, 1)", x.shared(1, 1), 4);
        due.is("shared(1, 2) of equal nodes", x.shared(1, 2), 0);
        x.put(1, 2, 2);
        due.is("shared(3, 1)", x.shared(3, 1), 3);
        due.is("shared(1, 3)", x.shared(1, 3), 3);
        due.is("shared(3, 0)", x.shared(3, 0), 0);
        due.is("shared(4, 1)", x.shared(4, 1), UNKNOWN);
        due.is("shared(1, 4)", x.shared(1, 4), UNKNOWN);
        due.is("shared(-1, 1)", x.shared(-1, 1), UNKNOWN);
        due.is("shared(1, MOST)", x.shared(1, MOST), UNKNOWN);
    }

    private static void two() {
        due.part("promise 24");
        TrieVersions x = new TrieVersions();
        map(x, "1=1;2=2;3=3;4=4");
        map(x, "3=3;2=7;9=9");
        map(x, "4=4;3=3;2=2;1=1");
        map(x, "1=1;2=2;3=3;4=5");
        int[] answers = {0, 1, 1, 2, 1};
        int[] turned = {0, 1, 1, 1, 2};
        int[] same = {1, 4, 0, 0, 0};
        int[] nearly = {0, 3, 1, 0, 0};
        for (int what = 0; what <= 4; what++) {
            due.is("two(1, 2, " + what + ")", x.two(1, 2, what), answers[what]);
            due.is("two(2, 1, " + what + ")", x.two(2, 1, what), turned[what]);
            due.is("two(1, 3, " + what + ")", x.two(1, 3, what), same[what]);
            due.is("two(1, 1, " + what + ")", x.two(1, 1, what), same[what]);
            due.is("two(1, 4, " + what + ")", x.two(1, 4, what), nearly[what]);
            due.is("two(0, 0, " + what + ")", x.two(0, 0, what), what == 0 ? 1 : 0);
        }
        map(x, "1=1;2=2;3=3");
        due.is("two(1, 5, 0)", x.two(1, 5, 0), 0);
        due.is("two(5, 1, 0)", x.two(5, 1, 0), 0);
        due.is("two(0, 1, 0)", x.two(0, 1, 0), 0);
        due.is("two(1, 0, 0)", x.two(1, 0, 0), 0);
        due.is("two(0, 1, 4)", x.two(0, 1, 4), 4);
        for (int what : new int[] {-1, 5, LEAST, MOST}) {
            due.is("two(1, 2, " + what + ")", x.two(1, 2, what), OUTSIDE);
        }
        due.is("two(6, 1, 9)", x.two(6, 1, 9), UNKNOWN);
        due.is("two(1, 6, 0)", x.two(1, 6, 0), UNKNOWN);
        due.is("two(1, -1, 0)", x.two(1, -1, 0), UNKNOWN);
    }

    private static void countsAre(TrieVersions x, int... counts) {
        for (int what = 0; what < counts.length; what++) {
            due.is("count(" + what + ")", x.count(what), counts[what]);
        }
    }

    private static void count() {
        due.part("promise 25");
        TrieVersions x = new TrieVersions();
        for (int what : new int[] {-1, 9, LEAST, MOST}) {
            due.is("count(" + what + ")", x.count(what), OUTSIDE);
        }
        x.put(0, 1, 10);
        x.put(1, 33, 20);
        x.put(2, 2, 30);
        countsAre(x, 4, 6, 6, 0, 0, 0, 0, 1, 30);
        x.forget();
        countsAre(x, 3, 6, 4, 0, 0, 0, 0, 1, 30);
        x.begin(2);
        x.set(2, 30);
        countsAre(x, 3, 8, 4, 0, 0, 0, 1, 1, 30);
        write(x, "7=7");
        countsAre(x, 3, 8, 4, 3, 0, 0, 1, 1, 30);
        x.read();
        countsAre(x, 4, 9, 5, 0, 1, 0, 1, 1, 30);
        x.seal();
        countsAre(x, 5, 9, 7, 0, 1, 1, 0, 1, 30);
        x.scheme(7, 12);
        countsAre(x, 1, 9, 0, 0, 1, 1, 0, 7, 12);
    }

    private static long digestByCalls(TrieVersions x) {
        long hash = 1579;
        for (int v = 0; v < x.count(0); v++) {
            for (int what = 0; what <= 5; what++) {
                hash = 31 * hash + x.about(v, what);
            }
            for (int place = 0; place < x.about(v, 1); place++) {
                for (int what = 0; what <= 4; what++) {
                    hash = 31 * hash + x.node(v, place, what);
                }
            }
            for (int place = 0; place < x.about(v, 0); place++) {
                for (int what = 0; what <= 2; what++) {
                    hash = 31 * hash + x.entry(v, place, what);
                }
            }
            if (v != 0) {
                hash = 31 * hash + x.shared(v, v - 1);
            }
        }
        for (int what = 0; x.count(6) == 1 && what <= 3; what++) {
            hash = 31 * hash + x.edit(what);
        }
        return hash;
    }

    private static long withPage(TrieVersions x, long start, String page) {
        long hash = start;
        for (char sign : page.toCharArray()) {
            hash = 31 * hash + sign;
        }
        for (int what = 0; what <= 8; what++) {
            hash = 31 * hash + x.count(what);
        }
        return hash;
    }

    private static void digest() {
        due.part("promise 26");
        TrieVersions x = new TrieVersions();
        due.is("digest() of a new object", x.digest(), withPage(x, digestByCalls(x), ""));
        map(x, "1=1;33=2;31=3");
        x.put(1, 2, 3);
        due.is("digest() with versions", x.digest(), withPage(x, digestByCalls(x), ""));
        x.begin(2);
        x.set(2, 9);
        write(x, "~ x");
        long before = x.digest();
        due.is("digest() with edit and page", before, withPage(x, digestByCalls(x), "~ x"));
        due.is("digest() again", x.digest(), before);
        x.leave();
        due.is("digest() without the edit", x.digest(), withPage(x, digestByCalls(x), "~ x"));
    }

    private static void errorsChangeNothing() {
        due.part("errors");
        TrieVersions x = new TrieVersions();
        int full = filled(x, 24, 3);
        int odd = map(x, "1=1");
        x.begin(full);
        x.set(0, 500);
        write(x, "1=2;");
        long before = x.digest();
        int[] answers = {x.letter(31), x.read(), x.scheme(2, 3), x.scheme(3, 31), x.put(9, 1, 1), x.put(full, 1, 1),
            x.put(0, 4096, 1), x.remove(0, -1), x.both(full, odd, 0), x.both(0, 0, 3), x.chosen(full, 0, 0), x.begin(0),
            x.set(1, 1), x.set(-1, 1), x.unset(4096), x.edit(4), x.get(0, -1), x.about(0, 6), x.node(0, 0, 0),
            x.entry(0, 0, 0), x.shared(0, 9), x.two(0, 0, 5), x.count(9)};
        for (int i = 0; i < answers.length; i++) {
            due.holds("answer " + i + " is no error: " + answers[i], answers[i] <= UNKNOWN && answers[i] >= FULL);
        }
        due.is("digest()", x.digest(), before);
        due.is("get(full, 0)", x.get(full, 0), 0);
    }
}
