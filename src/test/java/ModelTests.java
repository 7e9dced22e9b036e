import java.util.Random;

/** Random runs of calls, always the same ones, of which the class and the model must answer each alike. */
public final class ModelTests {
    private static final int RUNS = 600, CALLS = 512;
    private static final int[] FACTORS = {1, 1, 3, 31, 33, 1025, 31745, 32769, 65535, 2, 0, -1, 65536, 65537};
    private static final int[] WIDTHS = {3, 4, 5, 6, 8, 10, 12, 15, 20, 29, 30, 30, 2, 31, -5};
    private static int wrong = 0;

    private final int run;
    private final Random random;
    private final TrieVersions real = new TrieVersions();
    private final Model model = new Model();
    private final int[] pool;
    private final int wrongOneIn;
    private final int style;

    private ModelTests(int run) {
        this.run = run;
        random = new Random(run);
        pool = new int[4 + random.nextInt(40)];
        int spread = random.nextInt(4);
        for (int i = 0; i < pool.length; i++) {
            pool[i] = spread == 0 ? random.nextInt(4096)
                : spread == 1 ? random.nextInt(128) * 32
                : spread == 2 ? random.nextInt(40)
                : (random.nextInt(4) << 10) | (random.nextInt(3) << 5) | random.nextInt(3);
        }
        wrongOneIn = 5 + random.nextInt(60);
        style = random.nextInt(4);
    }

    public static void main(String[] args) {
        for (int run = 0; run < RUNS && wrong == 0; run++) {
            new ModelTests(run).play();
        }
        System.out.println(wrong == 0 ? "the class answers as the model" : "the class answers otherwise");
        if (wrong != 0) {
            System.exit(1);
        }
    }

    private void due(String call, long got, long want) {
        if (got != want) {
            wrong++;
            System.out.println("run " + run + ": " + call + " answered " + got + ", the model " + want);
        }
    }

    private boolean slip() {
        return random.nextInt(wrongOneIn) == 0;
    }

    private int from(int least, int most) {
        if (slip()) {
            int[] edges = {least - 1, most + 1, Integer.MIN_VALUE, Integer.MAX_VALUE, least, most};
            return edges[random.nextInt(edges.length)];
        }
        return least + random.nextInt(most - least + 1);
    }

    private int key() {
        return slip() ? from(0, 4095) : pool[random.nextInt(pool.length)];
    }

    private int value() {
        return random.nextInt(3) == 0 ? from(0, 999) : from(0, 3);
    }

    private int version() {
        int last = model.count(0) - 1;
        return random.nextInt(3) == 0 ? last : from(0, last);
    }

    private void play() {
        if (random.nextInt(3) != 0) {
            scheme();
        }
        for (int call = 1; call < CALLS && wrong == 0; call++) {
            int kind = random.nextInt(100);
            if (kind < 30) {
                change();
            } else if (kind < 55) {
                editing();
            } else if (kind < 75) {
                writing();
            } else if (kind < 99) {
                query();
            } else if (random.nextInt(4) == 0) {
                scheme();
            }
            if (call % 32 == 0 || call == CALLS - 1) {
                due("digest() after call " + call, real.digest(), model.digest());
            }
        }
    }

    private void scheme() {
        int factor = FACTORS[random.nextInt(FACTORS.length)];
        int width = WIDTHS[random.nextInt(WIDTHS.length)];
        due("scheme(" + factor + ", " + width + ")", real.scheme(factor, width), model.scheme(factor, width));
    }

    private void change() {
        int v = version();
        int w = version();
        int k = key();
        int x = value();
        switch (random.nextInt(style == 0 ? 14 : 9)) {
            case 0 -> due("remove(" + v + ", " + k + ")", real.remove(v, k), model.remove(v, k));
            case 1, 2 -> {
                int how = from(0, 2);
                due("both(" + v + ", " + w + ", " + how + ")", real.both(v, w, how), model.both(v, w, how));
            }
            case 3 -> {
                int by = random.nextBoolean() ? 1 + random.nextInt(3) : from(1, 999);
                int rest = slip() ? by : random.nextInt(Math.max(1, Math.min(by, 3)));
                due("chosen(" + v + ", " + by + ", " + rest + ")", real.chosen(v, by, rest), model.chosen(v, by, rest));
            }
            case 4 -> forget();
            default -> due("put(" + v + ", " + k + ", " + x + ")", real.put(v, k, x), model.put(v, k, x));
        }
        while (model.count(0) == 20 && random.nextInt(4) != 0) {
            forget();
        }
    }

    private void forget() {
        due("forget()", real.forget(), model.forget());
    }

    private void editing() {
        int v = version();
        int k = key();
        int x = value();
        switch (random.nextInt(12)) {
            case 0 -> due("begin(" + v + ")", real.begin(v), model.begin(v));
            case 1, 2 -> due("unset(" + k + ")", real.unset(k), model.unset(k));
            case 3 -> {
                if (random.nextInt(3) == 0) {
                    due("seal()", real.seal(), model.seal());
                }
            }
            case 4 -> {
                if (random.nextInt(8) == 0) {
                    due("leave()", real.leave(), model.leave());
                }
            }
            default -> due("set(" + k + ", " + x + ")", real.set(k, x), model.set(k, x));
        }
        for (int what = -1; what <= 4; what++) {
            due("edit(" + what + ")", real.edit(what), model.edit(what));
        }
        due("count(1)", real.count(1), model.count(1));
    }

    private void writing() {
        int kind = random.nextInt(10);
        if (kind == 0) {
            int code = from(32, 126);
            due("letter(" + code + ")", real.letter(code), model.letter(code));
        } else if (kind == 1) {
            due("blank()", real.blank(), model.blank());
        } else if (kind < 5) {
            due("read()", real.read(), model.read());
        } else if (kind == 5) {
            String signs = "0123456789=;01=;";
            for (int i = random.nextInt(8); i > 0; i--) {
                append("" + signs.charAt(random.nextInt(signs.length())));
            }
        } else {
            for (int i = random.nextInt(9); i > 0; i--) {
                append((model.count(3) == 0 ? "" : ";") + key() + "=" + value());
            }
        }
        due("fault()", real.fault(), model.fault());
    }

    private void append(String text) {
        for (char sign : text.toCharArray()) {
            due("letter(" + (int) sign + ")", real.letter(sign), model.letter(sign));
        }
    }

    private void query() {
        int v = version();
        int w = version();
        int k = key();
        int place = from(0, 30);
        int what = from(0, 8);
        switch (random.nextInt(8)) {
            case 0 -> due("hash(" + k + ")", real.hash(k), model.hash(k));
            case 1 -> due("get(" + v + ", " + k + ")", real.get(v, k), model.get(v, k));
            case 2 -> due("about(" + v + ", " + what + ")", real.about(v, what), model.about(v, what));
            case 3 -> due("node(" + v + ", " + place + ", " + what + ")", real.node(v, place, what), model.node(v, place, what));
            case 4 -> due("entry(" + v + ", " + place + ", " + what + ")", real.entry(v, place, what), model.entry(v, place, what));
            case 5 -> due("shared(" + v + ", " + w + ")", real.shared(v, w), model.shared(v, w));
            case 6 -> due("two(" + v + ", " + w + ", " + what + ")", real.two(v, w, what), model.two(v, w, what));
            default -> due("count(" + what + ")", real.count(what), model.count(what));
        }
    }
}
