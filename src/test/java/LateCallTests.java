import java.util.Random;

/**
 * "What later calls answer is free", but no call may throw or fail to end, for any arguments in any state:
 * far more calls than 512 on one object, in and out of all ranges.
 */
public final class LateCallTests {
    private static final int CALLS = 300_000;
    private static final int[] EDGES = {Integer.MIN_VALUE, -1, 0, 1, 2, 3, 19, 20, 24, 30, 31, 59, 60, 61, 96, 126, 127,
        999, 1000, 4095, 4096, 65535, 65536, Integer.MAX_VALUE};
    private static final Random random = new Random(6);

    public static void main(String[] args) {
        TrieVersions x = new TrieVersions();
        int full = 0;
        for (int call = 0; call < CALLS; call++) {
            full += answer(x, random.nextInt(26)) == TrieVersions.FULL ? 1 : 0;
        }
        System.out.println(CALLS + " calls on one object have ended, " + full + " of them answered FULL");
        if (full == 0) {
            System.exit(1);
        }
    }

    private static int any() {
        return random.nextInt(4) == 0 ? EDGES[random.nextInt(EDGES.length)] : random.nextInt(40);
    }

    private static long answer(TrieVersions x, int kind) {
        return switch (kind) {
            case 0 -> x.letter("0123456789=;".charAt(random.nextInt(12)));
            case 1 -> random.nextInt(8) == 0 ? x.blank() : x.letter(any());
            case 2 -> x.fault();
            case 3 -> x.read();
            case 4 -> random.nextInt(50) == 0 ? x.scheme(any() | 1, any()) : x.scheme(any() * 2, any());
            case 5 -> x.hash(any());
            case 6 -> x.put(any(), any(), any());
            case 7 -> x.remove(any(), any());
            case 8 -> x.both(any(), any(), random.nextInt(3));
            case 9 -> x.both(any(), any(), any());
            case 10 -> x.chosen(any(), any(), any());
            case 11 -> random.nextInt(2) == 0 ? x.forget() : x.count(0);
            case 12 -> x.begin(any());
            case 13, 14 -> x.set(any() * 32, any());
            case 15 -> x.set(any(), any());
            case 16 -> x.unset(any());
            case 17 -> random.nextInt(4) == 0 ? x.seal() : x.edit(any());
            case 18 -> random.nextInt(8) == 0 ? x.leave() : x.edit(any());
            case 19 -> x.get(any(), any());
            case 20 -> x.about(any(), any());
            case 21 -> x.node(any(), any(), any());
            case 22 -> x.entry(any(), any(), any());
            case 23 -> x.shared(any(), any());
            case 24 -> x.two(any(), any(), any());
            default -> random.nextInt(4) == 0 ? x.digest() : x.count(any());
        };
    }
}
