import java.util.ArrayList;
import java.util.Collections;
import java.util.IdentityHashMap;
import java.util.List;
import java.util.Map;
import java.util.Set;
import java.util.TreeMap;

/**
 * The document once more, with real nodes that are shared and changed in place, and without any thought
 * of speed: what the class answers is compared with what this answers.
 */
final class Model {
    static final int NONE = -1, UNKNOWN = -101, OUTSIDE = -102, STATE = -103, FULL = -104;

    static final class Node {
        int kind;
        int level;
        Map<Integer, Integer> entries;
        TreeMap<Integer, Node> below = new TreeMap<>();
    }

    record Place(Node node, int level) { }

    record Version(Map<Integer, Integer> entries, Node root) { }

    /** What a node was just before a call that may change it. */
    record Was(Node node, int kind, int level, Map<Integer, Integer> entries) { }

    final class Edit {
        Map<Integer, Integer> entries;
        Node root;
        final Set<Node> own = Collections.newSetFromMap(new IdentityHashMap<>());
        int made = 0;
        private List<Was> before;

        Edit(Version from) {
            entries = from.entries();
            root = from.root();
        }

        void change(Map<Integer, Integer> next) {
            before = new ArrayList<>();
            for (Place place : places(root)) {
                Node node = place.node();
                before.add(new Was(node, node.kind, node.level, node.entries));
            }
            entries = next;
            root = determine(next, 0);
        }

        private Node determine(Map<Integer, Integer> part, int level) {
            if (part.isEmpty()) {
                return null;
            }
            int kind = kindOf(part);
            for (Was was : before) {
                if (was.kind() == kind && was.entries().equals(part) && (kind != 2 || was.level() == level)) {
                    return was.node();
                }
            }
            Node node = null;
            for (Was was : before) {
                if (own.contains(was.node()) && was.kind() == kind && inPlace(was, part, level)) {
                    node = was.node();
                }
            }
            if (node == null) {
                node = new Node();
                own.add(node);
                made++;
                madeNodes++;
            }
            node.kind = kind;
            node.level = level;
            node.entries = part;
            node.below = new TreeMap<>();
            if (kind == 2) {
                for (Map.Entry<Integer, Map<Integer, Integer>> e : parts(part, level).entrySet()) {
                    node.below.put(e.getKey(), determine(e.getValue(), level + 1));
                }
            }
            return node;
        }

        private boolean inPlace(Was was, Map<Integer, Integer> part, int level) {
            int oldKey = was.entries().keySet().iterator().next();
            int newKey = part.keySet().iterator().next();
            if (was.kind() == 0) {
                return oldKey == newKey;
            }
            if (was.kind() == 1) {
                return hashOf(oldKey) == hashOf(newKey);
            }
            if (was.level() != level) {
                return false;
            }
            for (int l = 0; l < level; l++) {
                if (partAt(oldKey, l) != partAt(newKey, l)) {
                    return false;
                }
            }
            return true;
        }

        int ownNodes() {
            int found = 0;
            for (Place place : places(root)) {
                if (own.contains(place.node())) {
                    found++;
                }
            }
            return found;
        }
    }

    private final List<Version> versions = new ArrayList<>();
    private final StringBuilder page = new StringBuilder();
    private int factor = 1;
    private int width = 30;
    private int madeNodes = 0;
    private int mapsRead = 0;
    private int seals = 0;
    private Edit open = null;

    Model() {
        versions.add(new Version(new TreeMap<>(), null));
    }

    // ---- trees

    private int hashOf(int key) {
        return key * factor & ((1 << width) - 1);
    }

    private int partAt(int key, int level) {
        return (hashOf(key) >> (5 * level)) & 31;
    }

    private int kindOf(Map<Integer, Integer> entries) {
        if (entries.size() == 1) {
            return 0;
        }
        return entries.keySet().stream().map(this::hashOf).distinct().count() == 1 ? 1 : 2;
    }

    private TreeMap<Integer, Map<Integer, Integer>> parts(Map<Integer, Integer> entries, int level) {
        TreeMap<Integer, Map<Integer, Integer>> parts = new TreeMap<>();
        for (Map.Entry<Integer, Integer> e : entries.entrySet()) {
            parts.computeIfAbsent(partAt(e.getKey(), level), p -> new TreeMap<>()).put(e.getKey(), e.getValue());
        }
        return parts;
    }

    private static List<Place> places(Node root) {
        List<Place> all = new ArrayList<>();
        collect(root, 0, all);
        return all;
    }

    private static void collect(Node node, int level, List<Place> all) {
        if (node == null) {
            return;
        }
        all.add(new Place(node, level));
        for (Node below : node.below.values()) {
            collect(below, level + 1, all);
        }
    }

    private record Row(int key, int value, int level) { }

    private static List<Row> rows(Node root) {
        List<Row> rows = new ArrayList<>();
        for (Place place : places(root)) {
            if (place.node().kind != 2) {
                place.node().entries.forEach((key, value) -> rows.add(new Row(key, value, place.level())));
            }
        }
        return rows;
    }

    private Node determine(Map<Integer, Integer> part, int level, Version first, Version second) {
        if (part.isEmpty()) {
            return null;
        }
        int kind = kindOf(part);
        for (Version source : new Version[] {first, second}) {
            for (Place place : places(source.root())) {
                Node node = place.node();
                if (node.kind == kind && node.entries.equals(part) && (kind != 2 || node.level == level)) {
                    return node;
                }
            }
        }
        Node node = new Node();
        madeNodes++;
        node.kind = kind;
        node.level = level;
        node.entries = part;
        if (kind == 2) {
            for (Map.Entry<Integer, Map<Integer, Integer>> e : parts(part, level).entrySet()) {
                node.below.put(e.getKey(), determine(e.getValue(), level + 1, first, second));
            }
        }
        return node;
    }

    private int made(Map<Integer, Integer> entries, int one, int other) {
        versions.add(new Version(entries, determine(entries, 0, versions.get(one), versions.get(other))));
        return versions.size() - 1;
    }

    private boolean unknown(int version) {
        return version < 0 || version >= versions.size();
    }

    private static boolean outside(int number, int most) {
        return number < 0 || number > most;
    }

    // ---- the face

    int letter(int code) {
        if (code < 32 || code > 126) {
            return OUTSIDE;
        }
        if (page.length() == 60) {
            return FULL;
        }
        page.append((char) code);
        return page.length();
    }

    int blank() {
        int length = page.length();
        page.setLength(0);
        return length;
    }

    private static boolean isNumber(String text, int most) {
        return text.matches("0|[1-9][0-9]{0,3}") && Integer.parseInt(text) <= most;
    }

    private static boolean isEntry(String text) {
        int sign = text.indexOf('=');
        return sign >= 0 && isNumber(text.substring(0, sign), 4095) && isNumber(text.substring(sign + 1), 999);
    }

    private static boolean isMap(String text) {
        if (text.isEmpty()) {
            return true;
        }
        for (String part : text.split(";", -1)) {
            if (!isEntry(part)) {
                return false;
            }
        }
        return true;
    }

    private static boolean beginsMap(String text) {
        return isMap(text) || isMap(text + "0") || isMap(text + "=0") || isMap(text + "0=0");
    }

    int fault() {
        for (int i = 0; i < page.length(); i++) {
            if (!beginsMap(page.substring(0, i + 1))) {
                return i;
            }
        }
        return page.length();
    }

    int read() {
        if (!isMap(page.toString())) {
            return STATE;
        }
        if (versions.size() == 20) {
            return FULL;
        }
        Edit edit = new Edit(versions.get(0));
        for (String part : page.length() == 0 ? new String[0] : page.toString().split(";")) {
            String[] sides = part.split("=");
            Map<Integer, Integer> next = new TreeMap<>(edit.entries);
            next.put(Integer.valueOf(sides[0]), Integer.valueOf(sides[1]));
            edit.change(next);
        }
        versions.add(new Version(edit.entries, edit.root));
        page.setLength(0);
        mapsRead++;
        return versions.size() - 1;
    }

    int scheme(int factor, int width) {
        if (factor < 1 || factor > 65535 || factor % 2 == 0 || width < 3 || width > 30) {
            return OUTSIDE;
        }
        this.factor = factor;
        this.width = width;
        int removed = versions.size() - 1;
        versions.subList(1, versions.size()).clear();
        open = null;
        return removed;
    }

    int hash(int key) {
        return outside(key, 4095) ? OUTSIDE : hashOf(key);
    }

    int put(int version, int key, int value) {
        if (unknown(version)) {
            return UNKNOWN;
        }
        if (outside(key, 4095) || outside(value, 999)) {
            return OUTSIDE;
        }
        Map<Integer, Integer> next = new TreeMap<>(versions.get(version).entries());
        next.put(key, value);
        return versions.size() == 20 || next.size() > 24 ? FULL : made(next, version, version);
    }

    int remove(int version, int key) {
        if (unknown(version)) {
            return UNKNOWN;
        }
        if (outside(key, 4095)) {
            return OUTSIDE;
        }
        Map<Integer, Integer> next = new TreeMap<>(versions.get(version).entries());
        next.remove(key);
        return versions.size() == 20 ? FULL : made(next, version, version);
    }

    int both(int one, int other, int how) {
        if (unknown(one) || unknown(other)) {
            return UNKNOWN;
        }
        if (outside(how, 2)) {
            return OUTSIDE;
        }
        Map<Integer, Integer> next = new TreeMap<>(versions.get(one).entries());
        Map<Integer, Integer> with = versions.get(other).entries();
        if (how == 0) {
            with.forEach(next::putIfAbsent);
        } else if (how == 1) {
            next.keySet().retainAll(with.keySet());
        } else {
            next.keySet().removeAll(with.keySet());
        }
        return versions.size() == 20 || next.size() > 24 ? FULL : made(next, one, other);
    }

    int chosen(int version, int by, int rest) {
        if (unknown(version)) {
            return UNKNOWN;
        }
        if (by < 1 || by > 999 || rest < 0 || rest >= by) {
            return OUTSIDE;
        }
        Map<Integer, Integer> next = new TreeMap<>(versions.get(version).entries());
        next.values().removeIf(value -> value % by != rest);
        return versions.size() == 20 ? FULL : made(next, version, version);
    }

    int forget() {
        if (versions.size() == 1) {
            return STATE;
        }
        versions.remove(versions.size() - 1);
        return versions.size();
    }

    int begin(int version) {
        if (unknown(version)) {
            return UNKNOWN;
        }
        if (open != null) {
            return STATE;
        }
        open = new Edit(versions.get(version));
        return open.entries.size();
    }

    int set(int key, int value) {
        if (open == null) {
            return STATE;
        }
        if (outside(key, 4095) || outside(value, 999)) {
            return OUTSIDE;
        }
        Map<Integer, Integer> next = new TreeMap<>(open.entries);
        next.put(key, value);
        if (next.size() > 24) {
            return FULL;
        }
        open.change(next);
        return next.size();
    }

    int unset(int key) {
        if (open == null) {
            return STATE;
        }
        if (outside(key, 4095)) {
            return OUTSIDE;
        }
        Map<Integer, Integer> next = new TreeMap<>(open.entries);
        next.remove(key);
        open.change(next);
        return next.size();
    }

    int seal() {
        if (open == null) {
            return STATE;
        }
        if (versions.size() == 20) {
            return FULL;
        }
        versions.add(new Version(open.entries, open.root));
        open = null;
        seals++;
        return versions.size() - 1;
    }

    int leave() {
        if (open == null) {
            return STATE;
        }
        int own = open.ownNodes();
        open = null;
        return own;
    }

    int edit(int what) {
        if (open == null) {
            return STATE;
        }
        if (outside(what, 3)) {
            return OUTSIDE;
        }
        return new int[] {open.entries.size(), places(open.root).size(), open.ownNodes(), open.made}[what];
    }

    int get(int version, int key) {
        if (unknown(version)) {
            return UNKNOWN;
        }
        return outside(key, 4095) ? OUTSIDE : versions.get(version).entries().getOrDefault(key, NONE);
    }

    int about(int version, int what) {
        if (unknown(version)) {
            return UNKNOWN;
        }
        if (outside(what, 5)) {
            return OUTSIDE;
        }
        List<Place> places = places(versions.get(version).root());
        if (what == 0) {
            return versions.get(version).entries().size();
        }
        if (what == 1) {
            return places.size();
        }
        if (what == 5) {
            return places.stream().mapToInt(Place::level).max().orElse(NONE);
        }
        return (int) places.stream().filter(place -> place.node().kind == what - 2).count();
    }

    int node(int version, int place, int what) {
        if (unknown(version)) {
            return UNKNOWN;
        }
        List<Place> places = places(versions.get(version).root());
        if (outside(place, places.size() - 1)) {
            return UNKNOWN;
        }
        if (outside(what, 4)) {
            return OUTSIDE;
        }
        Node node = places.get(place).node();
        int mask = node.below.keySet().stream().mapToInt(part -> 1 << part).sum();
        return switch (what) {
            case 0 -> node.kind;
            case 1 -> places.get(place).level();
            case 2 -> node.entries.size();
            case 3 -> rows(node).get(0).key();
            default -> node.kind == 2 ? mask : NONE;
        };
    }

    int entry(int version, int place, int what) {
        if (unknown(version)) {
            return UNKNOWN;
        }
        List<Row> rows = rows(versions.get(version).root());
        if (outside(place, rows.size() - 1)) {
            return UNKNOWN;
        }
        if (outside(what, 2)) {
            return OUTSIDE;
        }
        Row row = rows.get(place);
        return new int[] {row.key(), row.value(), row.level()}[what];
    }

    private static Set<Node> nodeSet() {
        return Collections.newSetFromMap(new IdentityHashMap<>());
    }

    int shared(int one, int other) {
        if (unknown(one) || unknown(other)) {
            return UNKNOWN;
        }
        Set<Node> nodes = nodeSet();
        places(versions.get(other).root()).forEach(place -> nodes.add(place.node()));
        return (int) places(versions.get(one).root()).stream().filter(p -> nodes.contains(p.node())).count();
    }

    int two(int one, int other, int what) {
        if (unknown(one) || unknown(other)) {
            return UNKNOWN;
        }
        if (outside(what, 4)) {
            return OUTSIDE;
        }
        Map<Integer, Integer> a = versions.get(one).entries();
        Map<Integer, Integer> b = versions.get(other).entries();
        return switch (what) {
            case 0 -> a.equals(b) ? 1 : 0;
            case 1 -> (int) a.keySet().stream().filter(k -> a.get(k).equals(b.get(k))).count();
            case 2 -> (int) a.keySet().stream().filter(k -> b.containsKey(k) && !a.get(k).equals(b.get(k))).count();
            case 3 -> (int) a.keySet().stream().filter(k -> !b.containsKey(k)).count();
            default -> (int) b.keySet().stream().filter(k -> !a.containsKey(k)).count();
        };
    }

    int count(int what) {
        if (outside(what, 8)) {
            return OUTSIDE;
        }
        Set<Node> nodes = nodeSet();
        versions.forEach(version -> places(version.root()).forEach(place -> nodes.add(place.node())));
        return new int[] {versions.size(), madeNodes, nodes.size(), page.length(), mapsRead, seals,
            open == null ? 0 : 1, factor, width}[what];
    }

    long digest() {
        List<Integer> results = new ArrayList<>();
        for (int v = 0; v < versions.size(); v++) {
            for (int what = 0; what <= 5; what++) {
                results.add(about(v, what));
            }
            for (int place = 0; place < about(v, 1); place++) {
                for (int what = 0; what <= 4; what++) {
                    results.add(node(v, place, what));
                }
            }
            for (int place = 0; place < about(v, 0); place++) {
                for (int what = 0; what <= 2; what++) {
                    results.add(entry(v, place, what));
                }
            }
            if (v != 0) {
                results.add(shared(v, v - 1));
            }
        }
        for (int what = 0; open != null && what <= 3; what++) {
            results.add(edit(what));
        }
        page.chars().forEach(results::add);
        for (int what = 0; what <= 8; what++) {
            results.add(count(what));
        }
        long hash = 1579;
        for (int result : results) {
            hash = 31 * hash + result;
        }
        return hash;
    }
}
