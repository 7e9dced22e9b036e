import java.util.ArrayList;
import java.util.Arrays;
import java.util.LinkedHashSet;
import java.util.List;
import java.util.Set;

/**
 * "A call that returns an error changes nothing": what all calls answer after it is what they answer
 * without it. An object answers 512 calls only, so the calls before are made again on new objects, as
 * often as the questions need.
 */
final class Refusal {
    static final int CALLS = 512;
    private static final int[] SOME_KEYS = {0, 1, 4095};

    private final Due due;
    private List<Call> before = null;
    private List<List<Call>> rounds;
    private List<List<Long>> answers;

    Refusal(Due due) {
        this.due = due;
    }

    void check(List<Call> calls, Call refused, long error) {
        if (!calls.equals(before)) {
            before = List.copyOf(calls);
            rounds = rounds();
            answers = new ArrayList<>();
            for (List<Call> round : rounds) {
                answers.add(answered(replayed(), round));
            }
        }
        for (int i = 0; i < rounds.size(); i++) {
            TrieVersions x = replayed();
            due.is(refused + " after the same calls", refused.on(x), error);
            compare(refused, rounds.get(i), answered(x, rounds.get(i)), answers.get(i));
        }
    }

    private void compare(Call refused, List<Call> round, List<Long> got, List<Long> want) {
        for (int i = 0; i < round.size(); i++) {
            due.is(round.get(i) + " after the refused " + refused, got.get(i), want.get(i));
        }
    }

    private TrieVersions replayed() {
        TrieVersions x = new TrieVersions();
        answered(x, before);
        return x;
    }

    private static List<Long> answered(TrieVersions x, List<Call> calls) {
        List<Long> answers = new ArrayList<>();
        calls.forEach(call -> answers.add(call.on(x)));
        return answers;
    }

    /** The questions in rounds that an object can answer, and two rounds of changes at the end. */
    private List<List<Call>> rounds() {
        int room = CALLS - before.size() - 1;
        int last = replayed().count(0) - 1;
        List<List<Call>> rounds = new ArrayList<>();
        List<Call> questions = questions();
        for (int start = 0; room > 0 && start < questions.size(); start += room) {
            rounds.add(questions.subList(start, Math.min(questions.size(), start + room)));
        }
        rounds.add(changes(0, last));
        rounds.add(changes(3, Math.max(0, last - 3)));
        if (rounds.stream().anyMatch(round -> round.size() > room)) {
            throw new IllegalStateException("too many calls before a refused one: " + before.size());
        }
        return rounds;
    }

    private List<Call> questions() {
        TrieVersions x = replayed();
        List<Call> all = new ArrayList<>();
        int versions = x.count(0);
        for (int version = 0; version < versions; version++) {
            ask(all, "about", 6, version);
            for (int place = x.about(version, 1) - 1; place >= 0; place--) {
                ask(all, "node", 5, version, place);
            }
            for (int place = x.about(version, 0) - 1; place >= 0; place--) {
                ask(all, "entry", 3, version, place);
            }
            for (int key : keys()) {
                all.add(Call.of("get", version, key));
            }
            for (int other = 0; other < versions; other++) {
                all.add(Call.of("shared", version, other));
                ask(all, "two", 5, version, other);
            }
        }
        ask(all, "edit", 4);
        ask(all, "count", 9);
        all.add(Call.of("fault"));
        all.add(Call.of("hash", 4095));
        all.add(Call.of("digest"));
        return all;
    }

    private static void ask(List<Call> all, String name, int whats, int... first) {
        for (int what = 0; what < whats; what++) {
            int[] arguments = Arrays.copyOf(first, first.length + 1);
            arguments[first.length] = what;
            all.add(new Call(name, arguments));
        }
    }

    private Set<Integer> keys() {
        Set<Integer> keys = new LinkedHashSet<>();
        for (int key : SOME_KEYS) {
            keys.add(key);
        }
        for (Call call : before) {
            if (call.name().equals("put")) {
                keys.add(call.arguments()[1]);
            } else if (call.name().equals("set")) {
                keys.add(call.arguments()[0]);
            }
        }
        return keys;
    }

    /** Calls that would show what a refused call has left where no question looks. */
    private static List<Call> changes(int forgotten, int last) {
        List<Call> all = new ArrayList<>();
        for (int i = 0; i < forgotten; i++) {
            all.add(Call.of("forget"));
        }
        all.addAll(List.of(Call.of("read"), Call.of("letter", '7'), Call.of("fault"), Call.of("blank"),
            Call.of("letter", '1'), Call.of("letter", '='), Call.of("letter", '2'), Call.of("read"), Call.of("digest")));
        all.addAll(List.of(Call.of("set", 1, 1), Call.of("set", 33, 1), Call.of("digest"), Call.of("unset", 1),
            Call.of("digest"), Call.of("seal"), Call.of("digest"), Call.of("begin", last), Call.of("set", 0, 7),
            Call.of("digest"), Call.of("leave")));
        all.addAll(List.of(Call.of("put", last, 1, 5), Call.of("both", last, 0, 0), Call.of("chosen", last, 2, 1),
            Call.of("remove", last, 1), Call.of("digest"), Call.of("forget"), Call.of("digest")));
        all.addAll(List.of(Call.of("scheme", 3, 5), Call.of("put", 0, 1, 1), Call.of("digest")));
        return all;
    }
}
