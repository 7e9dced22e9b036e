import java.util.ArrayList;
import java.util.LinkedHashMap;
import java.util.LinkedHashSet;
import java.util.List;
import java.util.Map;
import java.util.Set;

/** Which methods of the class call which others. */
final class CallGraph {
    private final Map<String, Set<String>> called = new LinkedHashMap<>();

    void add(String method) {
        called.computeIfAbsent(method, name -> new LinkedHashSet<>());
    }

    void add(String from, String to) {
        add(from);
        called.get(from).add(to);
    }

    Set<String> methods() {
        return called.keySet();
    }

    private Set<String> calledBy(String method) {
        return called.getOrDefault(method, Set.of());
    }

    private void reach(String method, Set<String> found) {
        for (String next : calledBy(method)) {
            if (found.add(next)) {
                reach(next, found);
            }
        }
    }

    private Set<String> reachedFrom(String method) {
        Set<String> found = new LinkedHashSet<>();
        reach(method, found);
        return found;
    }

    /** The methods that call themselves, also by way of others. */
    Set<String> recursive() {
        Set<String> found = new LinkedHashSet<>();
        for (String method : methods()) {
            if (reachedFrom(method).contains(method)) {
                found.add(method);
            }
        }
        return found;
    }

    /** The longest chain of methods from this one on in which none stands twice. */
    List<String> longestChain(String method) {
        return longestChain(method, new LinkedHashSet<>());
    }

    private List<String> longestChain(String method, Set<String> above) {
        List<String> longest = List.of();
        above.add(method);
        for (String next : calledBy(method)) {
            if (!above.contains(next)) {
                List<String> chain = longestChain(next, above);
                longest = chain.size() > longest.size() ? chain : longest;
            }
        }
        above.remove(method);
        List<String> whole = new ArrayList<>(List.of(method));
        whole.addAll(longest);
        return whole;
    }
}
