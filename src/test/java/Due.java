/** Counts and prints the answers that are not the ones that are due. */
final class Due {
    private int wrong = 0;
    private int checked = 0;
    private String part = "";

    void part(String name) {
        part = name;
    }

    void is(String call, long got, long want) {
        checked++;
        if (got != want) {
            wrong++;
            System.out.println(part + ": " + call + " answered " + got + ", due is " + want);
        }
    }

    void holds(String what, boolean holds) {
        checked++;
        if (!holds) {
            wrong++;
            System.out.println(part + ": " + what);
        }
    }

    void close() {
        System.out.println(checked + " answers checked, " + wrong + " of them wrong");
        if (wrong != 0 || checked == 0) {
            System.exit(1);
        }
    }
}
