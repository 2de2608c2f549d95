import java.util.ArrayList;
import java.util.Arrays;
import java.util.List;

/** The document once more, in its slowest and plainest form: rows of objects, ways gone through by recursion. */
final class Model {
    static final int LEAF = 0;
    static final int NODE = 1;
    static final int HOLE = 2;

    static final class Tree {
        int number;
        int sort;
        int name;
        int kind;
        boolean isPart;
        boolean isRule;
        final List<Tree> parts = new ArrayList<>();
        final List<int[]> tests = new ArrayList<>();

        boolean isPlain() {
            return sort != HOLE && parts.stream().allMatch(Tree::isPlain);
        }

        int depth() {
            return parts.stream().mapToInt(p -> p.depth() + 1).max().orElse(0);
        }

        int within() {
            return 1 + parts.stream().mapToInt(Tree::within).sum();
        }

        boolean isSeveral() {
            return sort == HOLE && kind >= 2;
        }
    }

    @SuppressWarnings("serial")
    private static final class Spent extends RuntimeException {
    }

    final List<Tree> trees = new ArrayList<>();
    final List<Tree> rules = new ArrayList<>();
    private List<Integer> told = new ArrayList<>();
    private List<List<List<Tree>>> kept = new ArrayList<>();
    private int found;
    private int tries;
    private int triesTold;
    /** How many rules the latest first() asked. */
    int askedByFirst;
    private List<List<Tree>> names = new ArrayList<>();

    private Tree at(int tree) {
        if (tree < 0 || tree >= trees.size()) {
            throw new IndexOutOfBoundsException();
        }
        return trees.get(tree);
    }

    private Tree plainAt(int tree) {
        Tree t = at(tree);
        need(t.isPlain());
        return t;
    }

    private static void need(boolean holds) {
        if (!holds) {
            throw new IllegalArgumentException();
        }
    }

    private static boolean isIn(int value, int from, int to) {
        return value >= from && value <= to;
    }

    private int make(int sort, int name, int kind) {
        if (trees.size() == 240) {
            throw new IllegalStateException();
        }
        Tree t = new Tree();
        t.number = trees.size();
        t.sort = sort;
        t.name = name;
        t.kind = kind;
        trees.add(t);
        return t.number;
    }

    int leaf(int name) {
        need(isIn(name, 0, 99));
        return make(LEAF, name, 0);
    }

    int node(int head) {
        need(isIn(head, 0, 9));
        return make(NODE, head, 0);
    }

    int hole(int name, int kind) {
        need(isIn(name, 0, 7) && isIn(kind, 0, 3));
        return make(HOLE, name, kind);
    }

    boolean more(int node, int part) {
        at(node);
        at(part);
        Tree n = at(node);
        Tree p = at(part);
        need(n.sort == NODE && !n.isPart && !n.isRule && n != p && p.depth() < 20);
        need(n.within() + p.within() <= 70);
        if (n.parts.size() == 12) {
            return false;
        }
        boolean isSorted = n.name >= 5 && n.isPlain() && p.isPlain();
        n.parts.add(p);
        if (isSorted) {
            n.parts.sort(Model::compare);
        }
        p.isPart = true;
        return true;
    }

    boolean test(int hole, int kind, int v) {
        Tree h = at(hole);
        need(h.sort == HOLE && isIn(kind, 0, 4));
        if (h.tests.size() == 3) {
            return false;
        }
        h.tests.add(new int[] {kind, v});
        return true;
    }

    static int compare(Tree a, Tree b) {
        if (a.sort != b.sort) {
            return a.sort == LEAF ? -1 : 1;
        }
        if (a.name != b.name) {
            return Integer.compare(a.name, b.name);
        }
        if (a.parts.size() != b.parts.size()) {
            return Integer.compare(a.parts.size(), b.parts.size());
        }
        for (int i = 0; i < a.parts.size(); i++) {
            int c = compare(a.parts.get(i), b.parts.get(i));
            if (c != 0) {
                return c;
            }
        }
        return 0;
    }

    int order(int a, int b) {
        at(a);
        at(b);
        return compare(plainAt(a), plainAt(b));
    }

    int parts(int tree) {
        return at(tree).parts.size();
    }

    int part(int tree, int k) {
        Tree t = at(tree);
        return isIn(k, 0, t.parts.size() - 1) ? t.parts.get(k).number : -1;
    }

    int match(int pattern, int tree, int tries) {
        at(pattern);
        at(tree);
        need(at(tree).isPlain() && isIn(tries, 0, 400));
        return run(at(pattern), at(tree), tries) ? found : -1;
    }

    int tried() {
        return tries;
    }

    /** False if it is spent. */
    private boolean run(Tree pattern, Tree tree, int most) {
        tries = 0;
        found = 0;
        triesTold = most;
        kept = new ArrayList<>();
        names = new ArrayList<>();
        for (int i = 0; i < 8; i++) {
            names.add(null);
        }
        try {
            put(pattern, List.of(tree), this::keep);
        } catch (Spent e) {
            return false;
        }
        return true;
    }

    private void keep() {
        found++;
        if (kept.size() < 20) {
            kept.add(new ArrayList<>(names));
        }
    }

    private void put(Tree p, List<Tree> row, Runnable then) {
        if (tries == triesTold) {
            throw new Spent();
        }
        tries++;
        if (p.sort == HOLE) {
            putHole(p, row, then);
        } else if (p.sort == row.get(0).sort && p.name == row.get(0).name) {
            putRow(p, 0, row.get(0).parts, then);
        }
    }

    private void putHole(Tree hole, List<Tree> row, Runnable then) {
        if (hole.kind == 1 && row.get(0).sort != LEAF) {
            return;
        }
        for (int[] test : hole.tests) {
            if (!holds(test[0], test[1], row)) {
                return;
            }
        }
        List<Tree> had = names.get(hole.name);
        if (had == null) {
            names.set(hole.name, row);
            then.run();
            names.set(hole.name, null);
        } else if (areEqual(had, row)) {
            then.run();
        }
    }

    private static boolean areEqual(List<Tree> a, List<Tree> b) {
        if (a.size() != b.size()) {
            return false;
        }
        for (int i = 0; i < a.size(); i++) {
            if (compare(a.get(i), b.get(i)) != 0) {
                return false;
            }
        }
        return true;
    }

    private static boolean holds(int kind, int v, List<Tree> row) {
        boolean isOne = row.size() == 1;
        boolean isLeaf = isOne && row.get(0).sort == LEAF;
        boolean isNode = isOne && row.get(0).sort == NODE;
        return switch (kind) {
            case 0 -> isLeaf && row.get(0).name > v;
            case 1 -> isLeaf && row.get(0).name < v;
            case 2 -> row.size() >= v;
            case 3 -> isNode && row.get(0).name == v;
            default -> isOne && !isLeaf;
        };
    }

    private void putRow(Tree node, int next, List<Tree> left, Runnable then) {
        if (next == node.parts.size()) {
            if (left.isEmpty()) {
                then.run();
            }
            return;
        }
        Tree p = node.parts.get(next);
        for (List<Integer> choice : choices(p, node.name >= 5, left.size())) {
            List<Tree> row = new ArrayList<>();
            List<Tree> rest = new ArrayList<>();
            for (int i = 0; i < left.size(); i++) {
                (choice.contains(i) ? row : rest).add(left.get(i));
            }
            put(p, row, () -> putRow(node, next + 1, rest, then));
        }
    }

    private static List<List<Integer>> choices(Tree p, boolean isAny, int size) {
        int least = p.isSeveral() && p.kind == 3 ? 0 : 1;
        int most = p.isSeveral() ? size : 1;
        List<List<Integer>> all = new ArrayList<>();
        for (int bits = 0; bits < 1 << size; bits++) {
            int many = Integer.bitCount(bits);
            boolean isNext = bits == (1 << many) - 1;
            if (many >= least && many <= most && (isAny || isNext)) {
                List<Integer> places = new ArrayList<>();
                for (int i = 0; i < size; i++) {
                    if ((bits >> i & 1) == 1) {
                        places.add(i);
                    }
                }
                all.add(places);
            }
        }
        all.sort((a, b) -> a.size() != b.size()
                ? Integer.compare(a.size(), b.size())
                : Arrays.compare(a.toArray(new Integer[0]), b.toArray(new Integer[0])));
        return all;
    }

    int bound(int match, int name, int k) {
        List<Tree> row = rowOf(match, name);
        return row != null && isIn(k, 0, row.size() - 1) ? row.get(k).number : -1;
    }

    int many(int match, int name) {
        List<Tree> row = rowOf(match, name);
        return row == null ? -1 : row.size();
    }

    private List<Tree> rowOf(int match, int name) {
        if (!isIn(match, 0, kept.size() - 1)) {
            throw new IndexOutOfBoundsException();
        }
        need(isIn(name, 0, 7));
        return kept.get(match).get(name);
    }

    int rule(int pattern) {
        Tree t = at(pattern);
        if (rules.size() == 30) {
            throw new IllegalStateException();
        }
        t.isRule = true;
        rules.add(t);
        return rules.size() - 1;
    }

    private static boolean mayMatch(Tree p, Tree t) {
        if (p.sort == HOLE) {
            return p.kind != 1 || t.sort == LEAF;
        }
        if (p.sort == LEAF) {
            return t.sort == LEAF && t.name == p.name;
        }
        if (t.sort != NODE || t.name != p.name) {
            return false;
        }
        long needed = p.parts.stream().filter(q -> q.sort != HOLE || q.kind != 3).count();
        boolean isOpen = p.parts.stream().anyMatch(Tree::isSeveral);
        if (t.parts.size() < needed || !isOpen && t.parts.size() > p.parts.size()) {
            return false;
        }
        if (p.name >= 5 || p.parts.isEmpty() || p.parts.get(0).sort == HOLE) {
            return true;
        }
        Tree a = p.parts.get(0);
        Tree b = t.parts.get(0);
        return a.sort == b.sort && a.name == b.name;
    }

    int net(int tree) {
        Tree t = plainAt(tree);
        told = new ArrayList<>();
        for (int r = 0; r < rules.size(); r++) {
            if (mayMatch(rules.get(r), t)) {
                told.add(r);
            }
        }
        return told.size();
    }

    int rules(int k) {
        return isIn(k, 0, told.size() - 1) ? told.get(k) : -1;
    }

    int first(int tree) {
        Tree t = plainAt(tree);
        tries = 0;
        kept = new ArrayList<>();
        askedByFirst = 0;
        int left = 400;
        for (int r = 0; r < rules.size(); r++) {
            if (mayMatch(rules.get(r), t)) {
                run(rules.get(r), t, left);
                askedByFirst++;
                left -= tries;
                if (found > 0) {
                    return r;
                }
            }
        }
        return -1;
    }

    int count(int what) {
        return switch (what) {
            case 0 -> trees.size();
            case 1 -> rules.size();
            case 2 -> kept.size();
            default -> -1;
        };
    }
}
