/**
 * Immutable maps with structural sharing, kept as hash tries that branch by five bits of a hash.
 *
 * The shape of a tree follows from its entries alone, so a tree is held as rows: its entries in their
 * order, and its nodes in theirs. What makes a node this one and not another is its number, which it
 * gets when it is made. All rows are made in the constructor; no call makes an object.
 */
public final class TrieVersions {
    public static final int NONE = -1, UNKNOWN = -101, OUTSIDE = -102, STATE = -103, FULL = -104;

    private static final int MOST_KEY = 4095, MOST_VALUE = 999, MOST_FACTOR = 65535;
    private static final int LEAST_WIDTH = 3, MOST_WIDTH = 30;
    private static final int LEAST_CODE = 32, MOST_CODE = 126;
    private static final int VERSION_ROOM = 20, ENTRY_ROOM = 24, PAGE_ROOM = 60;
    private static final int LEVELS = 6, PART_BITS = 5, PART_MASK = 31, HASH_BITS = LEVELS * PART_BITS;
    private static final int LEAF = 0, CLASH = 1, BRANCH = 2;
    // A branch has two entries at least, so a level has at most half as many branches as entries.
    private static final int NODE_ROOM = LEVELS * (ENTRY_ROOM / 2) + ENTRY_ROOM;
    // With all its halves it reaches over NODE_ROOM.
    private static final int LONGEST_JUMP = 64;
    private static final long DIGEST_START = 1579L, DIGEST_FACTOR = 31L;

    private final Tree[] versions = new Tree[VERSION_ROOM];
    private int versionCount = 1;
    private final Page page = new Page();
    private int factor = 1;
    private int width = MOST_WIDTH;
    private int madeNodes = 0;
    private int mapsRead = 0;
    private int sealsMade = 0;

    private Tree draft = new Tree();
    private boolean draftOpen = false;
    private int draftMade = 0;
    // The nodes that the draft had at first have smaller numbers than this, its own ones have not.
    private int draftOwnFrom = 0;
    private Tree spare = new Tree();

    public TrieVersions() {
        for (int version = 0; version < VERSION_ROOM; version++) {
            versions[version] = new Tree();
        }
    }

    // ---- texts

    public int letter(int code) {
        if (code < LEAST_CODE || code > MOST_CODE) {
            return OUTSIDE;
        }
        if (page.length >= PAGE_ROOM) {
            return FULL;
        }
        page.codes[page.length] = code;
        page.length++;
        return page.length;
    }

    public int blank() {
        int length = page.length;
        page.length = 0;
        return length;
    }

    public int fault() {
        return page.scan();
    }

    public int read() {
        page.scan();
        if (!page.isMap) {
            return STATE;
        }
        if (isFullOfVersions()) {
            return FULL;
        }
        int ownFrom = madeNodes;
        Tree map = versions[versionCount];
        map.empty();
        for (int pair = 0; pair < page.pairs; pair++) {
            spare.copyEntries(map);
            spare.give(page.keys[pair], page.values[pair], rankOf(page.keys[pair]));
            editNodes(spare, map, ownFrom);
            Tree before = map;
            map = spare;
            spare = before;
        }
        versions[versionCount] = map;
        page.length = 0;
        mapsRead++;
        return addVersion();
    }

    // ---- hashes

    public int scheme(int factor, int width) {
        if (factor < 1 || factor > MOST_FACTOR || (factor & 1) == 0) {
            return OUTSIDE;
        }
        if (width < LEAST_WIDTH || width > MOST_WIDTH) {
            return OUTSIDE;
        }
        this.factor = factor;
        this.width = width;
        int removed = versionCount - 1;
        versionCount = 1;
        draftOpen = false;
        return removed;
    }

    public int hash(int key) {
        return isKey(key) ? hashOf(key) : OUTSIDE;
    }

    // ---- versions

    public int put(int version, int key, int value) {
        if (!isVersion(version)) {
            return UNKNOWN;
        }
        if (!isKey(key) || !isValue(value)) {
            return OUTSIDE;
        }
        Tree source = versions[version];
        if (isFullOfVersions() || !source.hasRoomFor(key)) {
            return FULL;
        }
        Tree made = versions[versionCount];
        made.copyEntries(source);
        made.give(key, value, rankOf(key));
        shareNodes(made, source, source);
        return addVersion();
    }

    public int remove(int version, int key) {
        if (!isVersion(version)) {
            return UNKNOWN;
        }
        if (!isKey(key)) {
            return OUTSIDE;
        }
        if (isFullOfVersions()) {
            return FULL;
        }
        Tree source = versions[version];
        Tree made = versions[versionCount];
        made.copyEntries(source);
        made.drop(key);
        shareNodes(made, source, source);
        return addVersion();
    }

    public int both(int one, int other, int how) {
        if (!isVersion(one) || !isVersion(other)) {
            return UNKNOWN;
        }
        if (how < 0 || how > 2) {
            return OUTSIDE;
        }
        Tree first = versions[one];
        Tree second = versions[other];
        int together = first.entries + second.entries - first.keysAlsoIn(second);
        if (isFullOfVersions() || (how == 0 && together > ENTRY_ROOM)) {
            return FULL;
        }
        Tree made = versions[versionCount];
        if (how == 0) {
            made.unite(first, second);
        } else {
            made.select(first, second, how == 1);
        }
        shareNodes(made, first, second);
        return addVersion();
    }

    public int chosen(int version, int by, int rest) {
        if (!isVersion(version)) {
            return UNKNOWN;
        }
        if (by < 1 || by > MOST_VALUE || rest < 0 || rest >= by) {
            return OUTSIDE;
        }
        if (isFullOfVersions()) {
            return FULL;
        }
        Tree source = versions[version];
        Tree made = versions[versionCount];
        made.choose(source, by, rest);
        shareNodes(made, source, source);
        return addVersion();
    }

    public int forget() {
        if (versionCount <= 1) {
            return STATE;
        }
        versionCount--;
        return versionCount;
    }

    // ---- the edit

    public int begin(int version) {
        if (!isVersion(version)) {
            return UNKNOWN;
        }
        if (draftOpen) {
            return STATE;
        }
        draft.copyAll(versions[version]);
        draftOpen = true;
        draftMade = 0;
        draftOwnFrom = madeNodes;
        return draft.entries;
    }

    public int set(int key, int value) {
        if (!draftOpen) {
            return STATE;
        }
        if (!isKey(key) || !isValue(value)) {
            return OUTSIDE;
        }
        if (!draft.hasRoomFor(key)) {
            return FULL;
        }
        spare.copyEntries(draft);
        spare.give(key, value, rankOf(key));
        return redraft();
    }

    public int unset(int key) {
        if (!draftOpen) {
            return STATE;
        }
        if (!isKey(key)) {
            return OUTSIDE;
        }
        spare.copyEntries(draft);
        spare.drop(key);
        return redraft();
    }

    public int seal() {
        if (!draftOpen) {
            return STATE;
        }
        if (isFullOfVersions()) {
            return FULL;
        }
        Tree free = versions[versionCount];
        versions[versionCount] = draft;
        draft = free;
        draftOpen = false;
        sealsMade++;
        return addVersion();
    }

    public int leave() {
        if (!draftOpen) {
            return STATE;
        }
        draftOpen = false;
        return draft.nodesFrom(draftOwnFrom);
    }

    public int edit(int what) {
        if (!draftOpen) {
            return STATE;
        }
        switch (what) {
            case 0:
                return draft.entries;
            case 1:
                return draft.nodes;
            case 2:
                return draft.nodesFrom(draftOwnFrom);
            case 3:
                return draftMade;
            default:
                return OUTSIDE;
        }
    }

    // ---- queries

    public int get(int version, int key) {
        if (!isVersion(version)) {
            return UNKNOWN;
        }
        if (!isKey(key)) {
            return OUTSIDE;
        }
        Tree tree = versions[version];
        int index = tree.indexOfKey(key);
        return index < 0 ? NONE : tree.values[index];
    }

    public int about(int version, int what) {
        if (!isVersion(version)) {
            return UNKNOWN;
        }
        Tree tree = versions[version];
        switch (what) {
            case 0:
                return tree.entries;
            case 1:
                return tree.nodes;
            case 2:
                return tree.nodesOfKind(LEAF);
            case 3:
                return tree.nodesOfKind(CLASH);
            case 4:
                return tree.nodesOfKind(BRANCH);
            case 5:
                return tree.greatestLevel();
            default:
                return OUTSIDE;
        }
    }

    public int node(int version, int place, int what) {
        if (!isVersion(version)) {
            return UNKNOWN;
        }
        Tree tree = versions[version];
        if (place < 0 || place >= tree.nodes) {
            return UNKNOWN;
        }
        switch (what) {
            case 0:
                return tree.kinds[place];
            case 1:
                return tree.levels[place];
            case 2:
                return tree.sizes[place];
            case 3:
                return tree.keys[tree.firsts[place]];
            case 4:
                return tree.masks[place];
            default:
                return OUTSIDE;
        }
    }

    public int entry(int version, int place, int what) {
        if (!isVersion(version)) {
            return UNKNOWN;
        }
        Tree tree = versions[version];
        if (place < 0 || place >= tree.entries) {
            return UNKNOWN;
        }
        switch (what) {
            case 0:
                return tree.keys[place];
            case 1:
                return tree.values[place];
            case 2:
                return tree.entryLevels[place];
            default:
                return OUTSIDE;
        }
    }

    public int shared(int one, int other) {
        if (!isVersion(one) || !isVersion(other)) {
            return UNKNOWN;
        }
        Tree tree = versions[one];
        int found = 0;
        for (int at = 0; at < tree.nodes; at++) {
            if (versions[other].hasNodeOf(tree, at)) {
                found++;
            }
        }
        return found;
    }

    public int two(int one, int other, int what) {
        if (!isVersion(one) || !isVersion(other)) {
            return UNKNOWN;
        }
        Tree first = versions[one];
        Tree second = versions[other];
        int keys = first.keysAlsoIn(second);
        int pairs = first.pairsAlsoIn(second);
        switch (what) {
            case 0:
                return pairs == first.entries && pairs == second.entries ? 1 : 0;
            case 1:
                return pairs;
            case 2:
                return keys - pairs;
            case 3:
                return first.entries - keys;
            case 4:
                return second.entries - keys;
            default:
                return OUTSIDE;
        }
    }

    // ---- counts

    public int count(int what) {
        switch (what) {
            case 0:
                return versionCount;
            case 1:
                return madeNodes;
            case 2:
                return differentNodes();
            case 3:
                return page.length;
            case 4:
                return mapsRead;
            case 5:
                return sealsMade;
            case 6:
                return draftOpen ? 1 : 0;
            case 7:
                return factor;
            case 8:
                return width;
            default:
                return OUTSIDE;
        }
    }

    public long digest() {
        long sum = DIGEST_START;
        for (int version = 0; version < versionCount; version++) {
            sum = digestOfVersion(sum, version);
        }
        if (draftOpen) {
            for (int what = 0; what <= 3; what++) {
                sum = joined(sum, edit(what));
            }
        }
        for (int index = 0; index < page.length; index++) {
            sum = joined(sum, page.codes[index]);
        }
        for (int what = 0; what <= 8; what++) {
            sum = joined(sum, count(what));
        }
        return sum;
    }

    private long digestOfVersion(long start, int version) {
        long sum = start;
        for (int what = 0; what <= 5; what++) {
            sum = joined(sum, about(version, what));
        }
        Tree tree = versions[version];
        for (int place = 0; place < tree.nodes; place++) {
            for (int what = 0; what <= 4; what++) {
                sum = joined(sum, node(version, place, what));
            }
        }
        for (int place = 0; place < tree.entries; place++) {
            for (int what = 0; what <= 2; what++) {
                sum = joined(sum, entry(version, place, what));
            }
        }
        return version == 0 ? sum : joined(sum, shared(version, version - 1));
    }

    private static long joined(long sum, int result) {
        return DIGEST_FACTOR * sum + result;
    }

    // ---- arguments

    private boolean isVersion(int version) {
        return version >= 0 && version < versionCount;
    }

    private boolean isFullOfVersions() {
        return versionCount >= VERSION_ROOM;
    }

    private static boolean isKey(int key) {
        return key >= 0 && key <= MOST_KEY;
    }

    private static boolean isValue(int value) {
        return value >= 0 && value <= MOST_VALUE;
    }

    private int hashOf(int key) {
        return key * factor & ((1 << width) - 1);
    }

    /** The hash with its parts turned round, so that entries lie in the order of their ranks. */
    private int rankOf(int key) {
        int hash = hashOf(key);
        int rank = 0;
        for (int level = 0; level < LEVELS; level++) {
            rank = (rank << PART_BITS) | ((hash >> (PART_BITS * level)) & PART_MASK);
        }
        return rank;
    }

    // ---- making versions

    /** Lays the nodes of a tree whose entries stand; those that a source has are taken from it. */
    private void shareNodes(Tree made, Tree first, Tree second) {
        made.layNodes();
        int at = 0;
        while (at < made.nodes) {
            int taken = made.takeNodes(at, first);
            if (taken == 0) {
                taken = made.takeNodes(at, second);
            }
            if (taken == 0) {
                made.numbers[at] = madeNodes;
                madeNodes++;
            }
            at += Math.max(1, taken);
        }
    }

    /**
     * Lays the nodes of an edit whose entries stand, with what it had before, and answers how many
     * were made. A node that is equal stays, and an own node in the same place is changed but stays
     * too; what lies below an equal node is equal itself, so each node can be looked at alone.
     */
    private int editNodes(Tree next, Tree before, int ownFrom) {
        next.layNodes();
        int madeAtFirst = madeNodes;
        for (int at = 0; at < next.nodes; at++) {
            int old = before.indexOfPlace(next.places[at]);
            if (old >= 0 && (before.numbers[old] >= ownFrom || next.isEqualNode(at, before, old))) {
                next.numbers[at] = before.numbers[old];
            } else {
                next.numbers[at] = madeNodes;
                madeNodes++;
            }
        }
        return madeNodes - madeAtFirst;
    }

    /** Makes the spare tree, which has the new entries, the draft, and answers how many they are. */
    private int redraft() {
        draftMade += editNodes(spare, draft, draftOwnFrom);
        Tree before = draft;
        draft = spare;
        spare = before;
        return draft.entries;
    }

    /** Makes the tree behind the last version a version; the callers have tested that there is one. */
    private int addVersion() {
        Tree tree = versions[versionCount];
        tree.newNodes = 0;
        for (int at = 0; at < tree.nodes; at++) {
            if (!isNodeOfVersion(tree, at)) {
                tree.newNodes++;
            }
        }
        versionCount++;
        return versionCount - 1;
    }

    private boolean isNodeOfVersion(Tree tree, int at) {
        for (int version = 0; version < versionCount; version++) {
            if (versions[version].hasNodeOf(tree, at)) {
                return true;
            }
        }
        return false;
    }

    private int differentNodes() {
        int sum = 0;
        for (int version = 0; version < versionCount; version++) {
            sum += versions[version].newNodes;
        }
        return sum;
    }

    /** The entries of a map in their order, and the nodes of its tree in theirs. */
    private static final class Tree {
        int entries = 0;
        final int[] keys = new int[ENTRY_ROOM];
        final int[] values = new int[ENTRY_ROOM];
        final int[] ranks = new int[ENTRY_ROOM];
        final int[] entryLevels = new int[ENTRY_ROOM];

        int nodes = 0;
        final int[] numbers = new int[NODE_ROOM];
        final int[] kinds = new int[NODE_ROOM];
        final int[] levels = new int[NODE_ROOM];
        final int[] firsts = new int[NODE_ROOM];
        final int[] sizes = new int[NODE_ROOM];
        final int[] masks = new int[NODE_ROOM];
        final int[] spans = new int[NODE_ROOM];
        // Grows along the order of the nodes; nodes in one another's place have it in common.
        final long[] places = new long[NODE_ROOM];

        // How many nodes no earlier version has. It stays true, as only the last version is removed.
        int newNodes = 0;

        // ---- entries

        void empty() {
            entries = 0;
            nodes = 0;
        }

        void copyEntries(Tree from) {
            System.arraycopy(from.keys, 0, keys, 0, ENTRY_ROOM);
            System.arraycopy(from.values, 0, values, 0, ENTRY_ROOM);
            System.arraycopy(from.ranks, 0, ranks, 0, ENTRY_ROOM);
            entries = from.entries;
        }

        void copyAll(Tree from) {
            copyEntries(from);
            layNodes();
            System.arraycopy(from.numbers, 0, numbers, 0, NODE_ROOM);
        }

        void unite(Tree first, Tree second) {
            copyEntries(first);
            for (int index = 0; index < second.entries; index++) {
                if (first.indexOfKey(second.keys[index]) < 0) {
                    give(second.keys[index], second.values[index], second.ranks[index]);
                }
            }
        }

        void select(Tree first, Tree second, boolean inSecond) {
            entries = 0;
            for (int index = 0; index < first.entries; index++) {
                if ((second.indexOfKey(first.keys[index]) >= 0) == inSecond) {
                    append(first, index);
                }
            }
        }

        void choose(Tree from, int by, int rest) {
            entries = 0;
            for (int index = 0; index < from.entries; index++) {
                if (by > 0 && from.values[index] % by == rest) {
                    append(from, index);
                }
            }
        }

        private void append(Tree from, int index) {
            if (entries < ENTRY_ROOM) {
                keys[entries] = from.keys[index];
                values[entries] = from.values[index];
                ranks[entries] = from.ranks[index];
                entries++;
            }
        }

        void give(int key, int value, int rank) {
            int index = indexOfKey(key);
            if (index >= 0) {
                values[index] = value;
            } else if (entries < ENTRY_ROOM) {
                insert(key, value, rank);
            }
        }

        private void insert(int key, int value, int rank) {
            int index = entries;
            while (index > 0 && isBehind(index - 1, key, rank)) {
                keys[index] = keys[index - 1];
                values[index] = values[index - 1];
                ranks[index] = ranks[index - 1];
                index--;
            }
            keys[index] = key;
            values[index] = value;
            ranks[index] = rank;
            entries++;
        }

        private boolean isBehind(int index, int key, int rank) {
            return ranks[index] > rank || (ranks[index] == rank && keys[index] > key);
        }

        void drop(int key) {
            int index = indexOfKey(key);
            if (index < 0) {
                return;
            }
            for (int next = index + 1; next < entries; next++) {
                keys[next - 1] = keys[next];
                values[next - 1] = values[next];
                ranks[next - 1] = ranks[next];
            }
            entries--;
        }

        int indexOfKey(int key) {
            for (int index = 0; index < entries; index++) {
                if (keys[index] == key) {
                    return index;
                }
            }
            return NONE;
        }

        boolean hasRoomFor(int key) {
            return entries < ENTRY_ROOM || indexOfKey(key) >= 0;
        }

        int keysAlsoIn(Tree other) {
            int found = 0;
            for (int index = 0; index < entries; index++) {
                if (other.indexOfKey(keys[index]) >= 0) {
                    found++;
                }
            }
            return found;
        }

        int pairsAlsoIn(Tree other) {
            int found = 0;
            for (int index = 0; index < entries; index++) {
                int there = other.indexOfKey(keys[index]);
                if (there >= 0 && other.values[there] == values[index]) {
                    found++;
                }
            }
            return found;
        }

        // ---- nodes

        /** Lays the nodes of the entries; their numbers are still to be given. */
        void layNodes() {
            nodes = 0;
            layTree(this, 0, 0, entries);
        }

        private static void layTree(Tree tree, int level, int from, int to) {
            if (from >= to || tree.nodes >= NODE_ROOM) {
                return;
            }
            int at = tree.nodes;
            tree.nodes++;
            int kind = tree.kindOfTree(level, from, to);
            tree.kinds[at] = kind;
            tree.levels[at] = level;
            tree.firsts[at] = from;
            tree.sizes[at] = to - from;
            tree.places[at] = placeOf(kind, level, tree.ranks[from], tree.keys[from]);
            if (kind == BRANCH) {
                tree.masks[at] = layBelow(tree, level, from, to);
            } else {
                tree.masks[at] = NONE;
                tree.levelEntries(level, from, to);
            }
            tree.spans[at] = tree.nodes - at;
        }

        private void levelEntries(int level, int from, int to) {
            for (int index = from; index < to; index++) {
                entryLevels[index] = level;
            }
        }

        private static int layBelow(Tree tree, int level, int from, int to) {
            int mask = 0;
            int start = from;
            for (int next = from + 1; next <= to; next++) {
                int part = partOf(tree.ranks[start], level);
                if (next == to || partOf(tree.ranks[next], level) != part) {
                    mask |= 1 << part;
                    layTree(tree, level + 1, start, next);
                    start = next;
                }
            }
            return mask;
        }

        private int kindOfTree(int level, int from, int to) {
            if (to - from == 1) {
                return LEAF;
            }
            // Behind the last level all parts are used up, so that the hashes are equal there anyway.
            return ranks[from] == ranks[to - 1] || level >= LEVELS ? CLASH : BRANCH;
        }

        private static int bitsBelow(int level) {
            return HASH_BITS - PART_BITS * level;
        }

        private static int partOf(int rank, int level) {
            return (rank >> bitsBelow(level + 1)) & PART_MASK;
        }

        /** A leaf is known by its key, a clash by its hash, a branch by its level and the parts above. */
        private static long placeOf(int kind, int level, int rank, int key) {
            if (kind == LEAF) {
                return packed(rank, LEVELS + 1, key);
            }
            if (kind == CLASH) {
                return packed(rank, LEVELS, 0);
            }
            int bits = bitsBelow(level);
            return packed((rank >> bits) << bits, level, 0);
        }

        private static long packed(int rank, int step, int key) {
            return ((long) rank << 15) | (step << 12) | key;
        }

        int indexOfPlace(long place) {
            int last = NONE;
            for (int jump = LONGEST_JUMP; jump > 0; jump /= 2) {
                if (last + jump < nodes && places[last + jump] <= place) {
                    last += jump;
                }
            }
            return last >= 0 && places[last] == place ? last : NONE;
        }

        /** Equal places mean the same kind and, for branches, the same level. */
        boolean isEqualNode(int at, Tree other, int there) {
            if (places[at] != other.places[there] || sizes[at] != other.sizes[there]) {
                return false;
            }
            for (int step = 0; step < sizes[at]; step++) {
                int here = firsts[at] + step;
                int beside = other.firsts[there] + step;
                if (keys[here] != other.keys[beside] || values[here] != other.values[beside]) {
                    return false;
                }
            }
            return true;
        }

        /** Takes a node and all below it from a source that has an equal one; answers how many. */
        int takeNodes(int at, Tree source) {
            int there = source.indexOfPlace(places[at]);
            if (there < 0 || !isEqualNode(at, source, there)) {
                return 0;
            }
            System.arraycopy(source.numbers, there, numbers, at, spans[at]);
            return spans[at];
        }

        boolean hasNodeOf(Tree other, int there) {
            int at = indexOfPlace(other.places[there]);
            return at >= 0 && numbers[at] == other.numbers[there];
        }

        int nodesFrom(int number) {
            int found = 0;
            for (int at = 0; at < nodes; at++) {
                if (numbers[at] >= number) {
                    found++;
                }
            }
            return found;
        }

        int nodesOfKind(int kind) {
            int found = 0;
            for (int at = 0; at < nodes; at++) {
                if (kinds[at] == kind) {
                    found++;
                }
            }
            return found;
        }

        int greatestLevel() {
            int greatest = NONE;
            for (int at = 0; at < nodes; at++) {
                greatest = Math.max(greatest, levels[at]);
            }
            return greatest;
        }
    }

    /** The page, and what its last scan found. */
    private static final class Page {
        private static final int NO_DIGIT = -1, WRONG = -2;

        final int[] codes = new int[PAGE_ROOM];
        int length = 0;
        boolean isMap = true;
        // A pair takes more than one character, so that these rows are never full.
        int pairs = 0;
        final int[] keys = new int[PAGE_ROOM];
        final int[] values = new int[PAGE_ROOM];

        /** Finds the pairs of the page; answers the index of the first wrong character, or the length. */
        int scan() {
            pairs = 0;
            isMap = false;
            boolean inKey = true;
            int number = NO_DIGIT;
            for (int index = 0; index < length; index++) {
                int code = codes[index];
                if (code >= '0' && code <= '9') {
                    number = grown(number, code - '0', inKey ? MOST_KEY : MOST_VALUE);
                    if (number == WRONG) {
                        return index;
                    }
                } else if (number != NO_DIGIT && code == (inKey ? '=' : ';')) {
                    keep(inKey, number);
                    inKey = !inKey;
                    number = NO_DIGIT;
                } else {
                    return index;
                }
            }
            if (!inKey && number != NO_DIGIT) {
                keep(false, number);
                isMap = true;
            }
            isMap = isMap || length == 0;
            return length;
        }

        private void keep(boolean isKey, int number) {
            if (pairs >= PAGE_ROOM) {
                return;
            }
            if (isKey) {
                keys[pairs] = number;
            } else {
                values[pairs] = number;
                pairs++;
            }
        }

        private static int grown(int number, int digit, int most) {
            if (number == NO_DIGIT) {
                return digit;
            }
            int next = number * 10 + digit;
            return number == 0 || next > most ? WRONG : next;
        }
    }
}
