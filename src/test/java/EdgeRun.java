import java.util.ArrayList;
import java.util.List;
import java.util.regex.Matcher;
import java.util.regex.Pattern;

/**
 * The calls of one test of an edge, on a new object. A step of it is one of
 * <pre>
 * put(0, 1, 10) = 1         a call and the answer that is due
 * put(0, 1, 1000) ! OUTSIDE a call that is refused: the answer that is due, and nothing has changed
 * count(1) -> made          a call whose answer gets a name
 * forget()                  a call whose answer is not looked at
 * k = 0..23: set(k, 7) = k+1  any of these for each number
 * digest() = 1579, 0, 0     a digest: what it is at first, then the results
 * write 1=2;3=4             letter() for each sign
 * </pre>
 */
final class EdgeRun {
    private static final Pattern LOOP = Pattern.compile("(\\w+) = (\\S+?)\\.\\.(\\S+): (.+)");
    private static final Pattern STEP = Pattern.compile("(\\w+)\\(([^)]*)\\)(?: (=|!|->) (.+))?");

    private final Object x;
    private final Due due;
    private final Refusal refusal;
    private final Names names = new Names();
    private final List<Call> changing = new ArrayList<>();
    private int calls = 0;
    private int answersDue = 0;

    /** Without a refusal (null) a refused call is looked at for its answer alone. */
    EdgeRun(Object x, Due due, Refusal refusal) {
        this.x = x;
        this.due = due;
        this.refusal = refusal;
    }

    int answersDue() {
        return answersDue;
    }

    void step(String line) {
        Matcher loop = LOOP.matcher(line);
        if (line.startsWith("write ")) {
            for (char sign : line.substring(6).toCharArray()) {
                make(Call.of("letter", sign), "", "");
            }
        } else if (loop.matches()) {
            for (long k = names.sum(loop.group(2)); k <= names.sum(loop.group(3)); k++) {
                names.give(loop.group(1), k);
                step(loop.group(4));
            }
        } else {
            single(line);
        }
    }

    private void single(String line) {
        Matcher step = STEP.matcher(line);
        if (!step.matches()) {
            throw new IllegalStateException("not a step: " + line);
        }
        String[] texts = step.group(2).isEmpty() ? new String[0] : step.group(2).split(", ");
        int[] arguments = new int[texts.length];
        for (int i = 0; i < texts.length; i++) {
            arguments[i] = Math.toIntExact(names.sum(texts[i]));
        }
        make(new Call(step.group(1), arguments), step.group(3) == null ? "" : step.group(3), step.group(4));
    }

    private void make(Call call, String sign, String want) {
        calls++;
        if (calls > Refusal.CALLS) {
            throw new IllegalStateException("more calls than an object answers: " + call);
        }
        long got = call.on(x);
        if (sign.equals("->")) {
            names.give(want, got);
        } else if (!sign.isEmpty()) {
            answersDue++;
            due.is(call.toString(), got, answer(want));
        }
        if (!sign.equals("!")) {
            changing.add(call);
        } else if (refusal != null) {
            refusal.check(changing, call, answer(want));
        }
    }

    private long answer(String text) {
        String[] results = text.split(", ");
        long answer = names.sum(results[0]);
        for (int i = 1; i < results.length; i++) {
            answer = 31 * answer + names.sum(results[i]);
        }
        return answer;
    }
}
