import java.util.Arrays;

/** Patterns beside trees: trees, matches in a stated order, rules, and a net over the rules. */
public final class SequenceMatch {
    private static final int NONE = -1;
    private static final int LEAF_NAMES = 100;
    private static final int HEADS = 10;
    private static final int HOLE_NAMES = 8;
    private static final int HOLE_KINDS = 4;
    private static final int TEST_KINDS = 5;
    private static final int MOST_PARTS = 12;
    private static final int MOST_WITHIN = 70;
    private static final int DEEPEST = 20;
    private static final int MOST_TRIES = 400;
    private static final int MOST_RULES = 30;

    private final Forest forest;
    private final Search search;
    private final int[] rulePatterns;
    private int ruleCount;
    private final int[] toldRules;
    private int toldCount;

    public SequenceMatch() {
        forest = new Forest();
        search = new Search(forest);
        rulePatterns = new int[MOST_RULES];
        ruleCount = 0;
        toldRules = new int[MOST_RULES];
        toldCount = 0;
    }

    public int leaf(int name) throws IllegalArgumentException, IllegalStateException {
        requireBelow(name, LEAF_NAMES);
        return newTree(Forest.LEAF, name, 0);
    }

    public int node(int head) throws IllegalArgumentException, IllegalStateException {
        requireBelow(head, HEADS);
        return newTree(Forest.NODE, head, 0);
    }

    public boolean more(int node, int part) throws IndexOutOfBoundsException, IllegalArgumentException {
        requireTree(node);
        requireTree(part);
        if (!forest.mayTake(node, part)) {
            throw new IllegalArgumentException("the node can't take this part");
        }
        return forest.addPart(node, part);
    }

    public int hole(int name, int kind) throws IllegalArgumentException, IllegalStateException {
        requireBelow(name, HOLE_NAMES);
        requireBelow(kind, HOLE_KINDS);
        return newTree(Forest.HOLE, name, kind);
    }

    public boolean test(int hole, int kind, int v) throws IndexOutOfBoundsException, IllegalArgumentException {
        requireTree(hole);
        if (!forest.isHole(hole)) {
            throw new IllegalArgumentException("it is no hole");
        }
        requireBelow(kind, TEST_KINDS);
        return forest.addTest(hole, kind, v);
    }

    public int match(int pattern, int tree, int tries) throws IndexOutOfBoundsException, IllegalArgumentException {
        requireTree(pattern);
        requirePlain(tree);
        requireBelow(tries, MOST_TRIES + 1);
        search.run(pattern, tree, tries);
        return search.isSpent() ? NONE : search.found();
    }

    public int tried() {
        return search.triesMade();
    }

    public int bound(int match, int name, int k) throws IndexOutOfBoundsException, IllegalArgumentException {
        requireMatch(match);
        requireBelow(name, HOLE_NAMES);
        return search.matches().treeOf(match, name, k);
    }

    public int many(int match, int name) throws IndexOutOfBoundsException, IllegalArgumentException {
        requireMatch(match);
        requireBelow(name, HOLE_NAMES);
        return search.matches().lengthOf(match, name);
    }

    public int rule(int pattern) throws IndexOutOfBoundsException, IllegalStateException {
        requireTree(pattern);
        if (ruleCount >= MOST_RULES) {
            throw new IllegalStateException("no room for a rule");
        }
        forest.close(pattern);
        rulePatterns[ruleCount] = pattern;
        ruleCount++;
        return ruleCount - 1;
    }

    public int net(int tree) throws IndexOutOfBoundsException, IllegalArgumentException {
        requirePlain(tree);
        toldCount = 0;
        for (int r = 0; r < ruleCount; r++) {
            if (forest.mayMatch(rulePatterns[r], tree)) {
                toldRules[toldCount] = r;
                toldCount++;
            }
        }
        return toldCount;
    }

    public int rules(int k) {
        return k >= 0 && k < toldCount ? toldRules[k] : NONE;
    }

    public int first(int tree) throws IndexOutOfBoundsException, IllegalArgumentException {
        requirePlain(tree);
        search.clear();
        int triesLeft = MOST_TRIES;
        for (int r = 0; r < ruleCount; r++) {
            if (forest.mayMatch(rulePatterns[r], tree)) {
                search.run(rulePatterns[r], tree, triesLeft);
                triesLeft -= search.triesMade();
                if (search.found() > 0) {
                    return r;
                }
            }
        }
        return NONE;
    }

    public int order(int a, int b) throws IndexOutOfBoundsException, IllegalArgumentException {
        // Both numbers are looked at first: a missing tree goes ahead of one that isn't plain.
        requireTree(a);
        requireTree(b);
        requirePlain(a);
        requirePlain(b);
        return forest.compare(a, b);
    }

    public int parts(int tree) throws IndexOutOfBoundsException {
        requireTree(tree);
        return forest.partCount(tree);
    }

    public int part(int tree, int k) throws IndexOutOfBoundsException {
        requireTree(tree);
        return k >= 0 && k < forest.partCount(tree) ? forest.partAt(tree, k) : NONE;
    }

    public int count(int what) {
        switch (what) {
            case 0:
                return forest.treeCount();
            case 1:
                return ruleCount;
            case 2:
                return search.matches().keptCount();
            default:
                return NONE;
        }
    }

    private int newTree(int sort, int name, int kind) {
        if (forest.isFull()) {
            throw new IllegalStateException("no room for a tree");
        }
        return forest.add(sort, name, kind);
    }

    private void requireTree(int tree) {
        if (!forest.hasTree(tree)) {
            throw new IndexOutOfBoundsException("no such tree");
        }
    }

    private void requirePlain(int tree) {
        requireTree(tree);
        if (!forest.isPlain(tree)) {
            throw new IllegalArgumentException("the tree isn't plain");
        }
    }

    private void requireMatch(int match) {
        if (match < 0 || match >= search.matches().keptCount()) {
            throw new IndexOutOfBoundsException("no such match");
        }
    }

    private static void requireBelow(int value, int limit) {
        if (value < 0 || value >= limit) {
            throw new IllegalArgumentException("there is no such name, head, kind or number of tries");
        }
    }

    /** All trees, in rows by their numbers. Its methods take numbers of trees that are there. */
    private static final class Forest {
        static final int LEAF = 0;
        static final int NODE = 1;
        static final int HOLE = 2;

        static final int KIND_LEAF = 1;
        static final int KIND_SOME = 2;
        static final int KIND_MANY = 3;

        private static final int MOST_TREES = 240;
        private static final int MOST_TESTS = 3;
        private static final int FIRST_ANY_HEAD = 5;

        private int treeCount;
        private final int[] sorts;
        /** A leaf's name, a node's head, a hole's name. */
        private final int[] names;
        private final int[] kinds;
        private final boolean[] plain;
        /** Trees that are a part or a rule: a node among them takes no more parts. */
        private final boolean[] closed;
        private final int[] depths;
        private final int[] sizes;
        private final int[] partCounts;
        private final int[] partRows;
        private final int[] testCounts;
        private final int[] testKinds;
        private final int[] testValues;

        Forest() {
            treeCount = 0;
            sorts = new int[MOST_TREES];
            names = new int[MOST_TREES];
            kinds = new int[MOST_TREES];
            plain = new boolean[MOST_TREES];
            closed = new boolean[MOST_TREES];
            depths = new int[MOST_TREES];
            sizes = new int[MOST_TREES];
            partCounts = new int[MOST_TREES];
            partRows = new int[MOST_TREES * MOST_PARTS];
            testCounts = new int[MOST_TREES];
            testKinds = new int[MOST_TREES * MOST_TESTS];
            testValues = new int[MOST_TREES * MOST_TESTS];
        }

        int treeCount() {
            return treeCount;
        }

        boolean isFull() {
            return treeCount >= MOST_TREES;
        }

        boolean hasTree(int tree) {
            return tree >= 0 && tree < treeCount;
        }

        int add(int sort, int name, int kind) {
            int tree = treeCount;
            sorts[tree] = sort;
            names[tree] = name;
            kinds[tree] = kind;
            plain[tree] = sort != HOLE;
            sizes[tree] = 1;
            treeCount++;
            return tree;
        }

        void close(int tree) {
            closed[tree] = true;
        }

        boolean isPlain(int tree) {
            return plain[tree];
        }

        boolean isLeaf(int tree) {
            return sorts[tree] == LEAF;
        }

        boolean isNode(int tree) {
            return sorts[tree] == NODE;
        }

        boolean isHole(int tree) {
            return sorts[tree] == HOLE;
        }

        boolean isHoleOfKind(int tree, int kind) {
            return sorts[tree] == HOLE && kinds[tree] == kind;
        }

        boolean takesSeveral(int tree) {
            return isHoleOfKind(tree, KIND_SOME) || isHoleOfKind(tree, KIND_MANY);
        }

        boolean isAnyOrder(int tree) {
            return sorts[tree] == NODE && names[tree] >= FIRST_ANY_HEAD;
        }

        int nameOf(int tree) {
            return names[tree];
        }

        int partCount(int tree) {
            return partCounts[tree];
        }

        int partAt(int tree, int k) {
            return partRows[tree * MOST_PARTS + k];
        }

        /** Leaves of one name, or nodes of one head. */
        boolean looksLike(int pattern, int tree) {
            return sorts[pattern] == sorts[tree] && names[pattern] == names[tree];
        }

        boolean mayTake(int node, int part) {
            return sorts[node] == NODE
                    && !closed[node]
                    && part != node
                    && depths[part] < DEEPEST
                    && sizes[node] + sizes[part] <= MOST_WITHIN;
        }

        boolean addPart(int node, int part) {
            int count = partCounts[node];
            if (count >= MOST_PARTS) {
                return false;
            }
            int row = node * MOST_PARTS;
            int place = placeFor(node, part);
            for (int k = count; k > place; k--) {
                partRows[row + k] = partRows[row + k - 1];
            }
            partRows[row + place] = part;
            partCounts[node] = count + 1;
            plain[node] = plain[node] && plain[part];
            depths[node] = Math.max(depths[node], depths[part] + 1);
            sizes[node] += sizes[part];
            closed[part] = true;
            return true;
        }

        /** Behind the last part that doesn't come behind the new one, so that equal ones stay as they came. */
        private int placeFor(int node, int part) {
            int place = partCounts[node];
            if (!isAnyOrder(node) || !plain[node] || !plain[part]) {
                return place;
            }
            while (place > 0 && compare(partAt(node, place - 1), part) > 0) {
                place--;
            }
            return place;
        }

        /** The ORDER of two plain trees: -1, 0 or 1. */
        int compare(int a, int b) {
            return compareFrom(this, a, b, 0);
        }

        /** No tree has parts deeper than DEEPEST, so the guard on the depth cuts nothing off. */
        private static int compareFrom(Forest forest, int a, int b, int depth) {
            if (a == b || depth > DEEPEST) {
                return 0;
            }
            if (forest.sorts[a] != forest.sorts[b]) {
                return forest.sorts[a] < forest.sorts[b] ? -1 : 1;
            }
            if (forest.names[a] != forest.names[b]) {
                return forest.names[a] < forest.names[b] ? -1 : 1;
            }
            int count = forest.partCounts[a];
            if (count != forest.partCounts[b]) {
                return count < forest.partCounts[b] ? -1 : 1;
            }
            for (int k = 0; k < count; k++) {
                int partOfA = forest.partRows[a * MOST_PARTS + k];
                int partOfB = forest.partRows[b * MOST_PARTS + k];
                int partsOrder = compareFrom(forest, partOfA, partOfB, depth + 1);
                if (partsOrder != 0) {
                    return partsOrder;
                }
            }
            return 0;
        }

        boolean addTest(int hole, int kind, int v) {
            int count = testCounts[hole];
            if (count >= MOST_TESTS) {
                return false;
            }
            testKinds[hole * MOST_TESTS + count] = kind;
            testValues[hole * MOST_TESTS + count] = v;
            testCounts[hole] = count + 1;
            return true;
        }

        boolean passesTests(int hole, int[] row, int length) {
            for (int k = 0; k < testCounts[hole]; k++) {
                int at = hole * MOST_TESTS + k;
                if (!passes(testKinds[at], testValues[at], row, length)) {
                    return false;
                }
            }
            return true;
        }

        private boolean passes(int kind, int v, int[] row, int length) {
            if (kind == 2) {
                return length >= v;
            }
            if (length != 1) {
                return false;
            }
            int tree = row[0];
            switch (kind) {
                case 0:
                    return isLeaf(tree) && names[tree] > v;
                case 1:
                    return isLeaf(tree) && names[tree] < v;
                case 3:
                    return isNode(tree) && names[tree] == v;
                default:
                    return !isLeaf(tree);
            }
        }

        boolean mayMatch(int pattern, int tree) {
            if (isHole(pattern)) {
                return kinds[pattern] != KIND_LEAF || isLeaf(tree);
            }
            if (!looksLike(pattern, tree)) {
                return false;
            }
            return isLeaf(pattern) || (hasFittingCount(pattern, tree) && hasFittingStart(pattern, tree));
        }

        private boolean hasFittingCount(int pattern, int tree) {
            int least = 0;
            boolean open = false;
            for (int k = 0; k < partCounts[pattern]; k++) {
                int part = partAt(pattern, k);
                if (!isHoleOfKind(part, KIND_MANY)) {
                    least++;
                }
                open = open || takesSeveral(part);
            }
            return partCounts[tree] >= least && (open || partCounts[tree] <= partCounts[pattern]);
        }

        private boolean hasFittingStart(int pattern, int tree) {
            if (isAnyOrder(pattern) || partCounts[pattern] == 0 || isHole(partAt(pattern, 0))) {
                return true;
            }
            return partCounts[tree] > 0 && looksLike(partAt(pattern, 0), partAt(tree, 0));
        }
    }

    /**
     * A pattern laid out in slots, one for each tree within it, in the order in which they are put beside trees:
     * a node, its own row, then what is left of the row that it is in.
     */
    private static final class Plan {
        private int slotCount;
        private final int[] trees;
        private final int[] parents;
        private final boolean[] lasts;

        Plan() {
            slotCount = 0;
            trees = new int[MOST_WITHIN];
            parents = new int[MOST_WITHIN];
            lasts = new boolean[MOST_WITHIN];
        }

        void lay(Forest forest, int pattern) {
            slotCount = 1;
            trees[0] = pattern;
            parents[0] = NONE;
            lasts[0] = true;
            layParts(this, forest, 0, 0);
        }

        private static void layParts(Plan plan, Forest forest, int parent, int depth) {
            if (depth > DEEPEST) {
                return;
            }
            int tree = plan.trees[parent];
            int count = forest.partCount(tree);
            for (int k = 0; k < count && plan.slotCount < MOST_WITHIN; k++) {
                int slot = plan.slotCount;
                plan.trees[slot] = forest.partAt(tree, k);
                plan.parents[slot] = parent;
                plan.lasts[slot] = k == count - 1;
                plan.slotCount++;
                layParts(plan, forest, slot, depth + 1);
            }
        }

        int slotCount() {
            return slotCount;
        }

        int treeAt(int slot) {
            return trees[slot];
        }

        int parentOf(int slot) {
            return parents[slot];
        }

        boolean isLastInRow(int slot) {
            return lasts[slot];
        }
    }

    /** What the names have on the way that is being gone, and which slot gave it to them. */
    private static final class Names {
        private final int[] lengths;
        private final int[] trees;
        private final int[] givers;

        Names() {
            lengths = new int[HOLE_NAMES];
            trees = new int[HOLE_NAMES * MOST_PARTS];
            givers = new int[HOLE_NAMES];
        }

        void clear() {
            Arrays.fill(lengths, NONE);
            Arrays.fill(givers, NONE);
        }

        boolean hasNothing(int name) {
            return lengths[name] < 0;
        }

        void give(int name, int[] row, int length, int giver) {
            System.arraycopy(row, 0, trees, name * MOST_PARTS, length);
            lengths[name] = length;
            givers[name] = giver;
        }

        /** Only the slot that gave a name its row takes it back, not one that found the same again. */
        void takeBack(int name, int giver) {
            if (givers[name] == giver) {
                lengths[name] = NONE;
                givers[name] = NONE;
            }
        }

        boolean hasSame(Forest forest, int name, int[] row, int length) {
            if (lengths[name] != length) {
                return false;
            }
            for (int k = 0; k < length; k++) {
                if (forest.compare(trees[name * MOST_PARTS + k], row[k]) != 0) {
                    return false;
                }
            }
            return true;
        }
    }

    /** The first matches of a search, as copies of what the names had. */
    private static final class Matches {
        private static final int MOST_KEPT = 20;
        private static final int MATCH_TREES = HOLE_NAMES * MOST_PARTS;

        private int keptCount;
        private final int[] lengths;
        private final int[] trees;

        Matches() {
            keptCount = 0;
            lengths = new int[MOST_KEPT * HOLE_NAMES];
            trees = new int[MOST_KEPT * MATCH_TREES];
        }

        void clear() {
            keptCount = 0;
        }

        void keep(Names names) {
            if (keptCount < MOST_KEPT) {
                System.arraycopy(names.lengths, 0, lengths, keptCount * HOLE_NAMES, HOLE_NAMES);
                System.arraycopy(names.trees, 0, trees, keptCount * MATCH_TREES, MATCH_TREES);
                keptCount++;
            }
        }

        int keptCount() {
            return keptCount;
        }

        int lengthOf(int match, int name) {
            return lengths[match * HOLE_NAMES + name];
        }

        int treeOf(int match, int name, int k) {
            if (k < 0 || k >= lengthOf(match, name)) {
                return NONE;
            }
            return trees[match * MATCH_TREES + name * MOST_PARTS + k];
        }
    }

    /** Rows of places 0 .. 11 as bits, the first place being the lowest bit; NONE where there is no such row. */
    private static final class Places {
        private Places() {
        }

        static int all(int count) {
            return (1 << count) - 1;
        }

        static int lowest(int places, int count) {
            int taken = 0;
            int missing = count;
            for (int i = 0; i < MOST_PARTS && missing > 0; i++) {
                int place = 1 << i;
                if ((places & place) != 0) {
                    taken |= place;
                    missing--;
                }
            }
            return missing == 0 ? taken : NONE;
        }

        static int behind(int places, int place) {
            return places & ~(place | (place - 1));
        }

        /** The next choice behind `taken`: as many places, the last that can be moved being moved on, else one more. */
        static int nextChoice(int places, int taken) {
            int passed = 0;
            boolean canMove = false;
            for (int i = MOST_PARTS - 1; i >= 0; i--) {
                int place = 1 << i;
                if ((taken & place) == 0) {
                    canMove = canMove || (places & place) != 0;
                } else if (canMove) {
                    return (taken & (place - 1)) | lowest(behind(places, place), passed + 1);
                } else {
                    passed++;
                }
            }
            return lowest(places, passed + 1);
        }
    }

    /** Goes through all ways of putting a pattern beside a tree, slot by slot, and back to the latest other choice. */
    private static final class Search {
        /** Each step makes a try or goes back over a slot that a try went on to: two for each try are enough. */
        private static final int MOST_STEPS = 2 * MOST_TRIES + 2;

        private final Forest forest;
        private final Plan plan;
        private final Names names;
        private final Matches matches;
        /** For each slot the places that it has of the row that its parent is put beside. */
        private final int[] taken;
        /** For each slot of a node: the tree that it is put beside, and the places of its parts that are left. */
        private final int[] beside;
        private final int[] left;
        /** The trees that the latest slot is put beside. */
        private final int[] row;
        private int rowLength;
        private int wholeTree;
        private int tries;
        private int found;
        private boolean spent;

        Search(Forest trees) {
            forest = trees;
            plan = new Plan();
            names = new Names();
            matches = new Matches();
            taken = new int[MOST_WITHIN];
            beside = new int[MOST_WITHIN];
            left = new int[MOST_WITHIN];
            row = new int[MOST_PARTS];
            rowLength = 0;
            wholeTree = 0;
            tries = 0;
            found = 0;
            spent = false;
        }

        Matches matches() {
            return matches;
        }

        int triesMade() {
            return tries;
        }

        int found() {
            return found;
        }

        boolean isSpent() {
            return spent;
        }

        void clear() {
            matches.clear();
            names.clear();
            tries = 0;
            found = 0;
            spent = false;
        }

        void run(int pattern, int tree, int triesTold) {
            clear();
            plan.lay(forest, pattern);
            wholeTree = tree;
            int slot = 0;
            taken[0] = NONE;
            for (int step = 0; step < MOST_STEPS && slot >= 0; step++) {
                release(slot);
                if (!choose(slot)) {
                    slot--;
                } else if (tries >= triesTold) {
                    spent = true;
                    return;
                } else {
                    slot = makeTry(slot);
                }
            }
        }

        /** The slot to go on with: the next one, or the same one if this way has come to its end. */
        private int makeTry(int slot) {
            tries++;
            gatherRow(slot);
            int pattern = plan.treeAt(slot);
            boolean fits = forest.isHole(pattern) ? fitsHole(slot, pattern) : fitsLeafOrNode(slot, pattern);
            if (!fits || !rowsEndHere(slot)) {
                return slot;
            }
            if (slot + 1 >= plan.slotCount()) {
                found++;
                matches.keep(names);
                return slot;
            }
            taken[slot + 1] = NONE;
            return slot + 1;
        }

        private void release(int slot) {
            if (slot > 0 && taken[slot] != NONE) {
                left[plan.parentOf(slot)] |= taken[slot];
            }
            int pattern = plan.treeAt(slot);
            if (forest.isHole(pattern)) {
                names.takeBack(forest.nameOf(pattern), slot);
            }
        }

        private boolean choose(int slot) {
            if (slot == 0) {
                // The whole pattern has one tree beside it, and so one choice.
                boolean isNew = taken[0] == NONE;
                taken[0] = isNew ? 1 : NONE;
                return isNew;
            }
            int choice = taken[slot] == NONE ? firstChoice(slot) : laterChoice(slot);
            taken[slot] = choice;
            if (choice == NONE) {
                return false;
            }
            left[plan.parentOf(slot)] &= ~choice;
            return true;
        }

        private int firstChoice(int slot) {
            int least = forest.isHoleOfKind(plan.treeAt(slot), Forest.KIND_MANY) ? 0 : 1;
            return Places.lowest(left[plan.parentOf(slot)], least);
        }

        private int laterChoice(int slot) {
            int parent = plan.parentOf(slot);
            boolean isAnyOrder = forest.isAnyOrder(plan.treeAt(parent));
            if (forest.takesSeveral(plan.treeAt(slot))) {
                return isAnyOrder
                        ? Places.nextChoice(left[parent], taken[slot])
                        : Places.lowest(left[parent], Integer.bitCount(taken[slot]) + 1);
            }
            return isAnyOrder ? Places.lowest(Places.behind(left[parent], taken[slot]), 1) : NONE;
        }

        private void gatherRow(int slot) {
            if (slot == 0) {
                row[0] = wholeTree;
                rowLength = 1;
                return;
            }
            int tree = beside[plan.parentOf(slot)];
            rowLength = 0;
            for (int k = 0; k < forest.partCount(tree); k++) {
                if ((taken[slot] & (1 << k)) != 0) {
                    row[rowLength] = forest.partAt(tree, k);
                    rowLength++;
                }
            }
        }

        private boolean fitsLeafOrNode(int slot, int pattern) {
            if (!forest.looksLike(pattern, row[0])) {
                return false;
            }
            beside[slot] = row[0];
            left[slot] = Places.all(forest.partCount(row[0]));
            return true;
        }

        private boolean fitsHole(int slot, int hole) {
            if (forest.isHoleOfKind(hole, Forest.KIND_LEAF) && !forest.isLeaf(row[0])) {
                return false;
            }
            if (!forest.passesTests(hole, row, rowLength)) {
                return false;
            }
            int name = forest.nameOf(hole);
            if (names.hasNothing(name)) {
                names.give(name, row, rowLength, slot);
                return true;
            }
            return names.hasSame(forest, name, row, rowLength);
        }

        /** Of the rows whose last part this slot is none may have a tree left; a row that isn't at its end may. */
        private boolean rowsEndHere(int slot) {
            int pattern = plan.treeAt(slot);
            if (forest.isNode(pattern)) {
                if (forest.partCount(pattern) > 0) {
                    return true;
                }
                if (left[slot] != 0) {
                    return false;
                }
            }
            int at = slot;
            for (int up = 0; up <= DEEPEST && at > 0 && plan.isLastInRow(at); up++) {
                at = plan.parentOf(at);
                if (left[at] != 0) {
                    return false;
                }
            }
            return true;
        }
    }
}
