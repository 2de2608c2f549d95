/** What the tests make and read of an object by several calls at once. */
final class Build {
    static final int LOW = Integer.MIN_VALUE;
    static final int HIGH = Integer.MAX_VALUE;
    static final int ONE = 0;
    static final int LEAF = 1;
    static final int SOME = 2;
    static final int MANY = 3;

    private Build() {
    }

    /** A node of this head with these parts. */
    static int node(SequenceMatch x, int head, int... parts) {
        int node = x.node(head);
        for (int part : parts) {
            x.more(node, part);
        }
        return node;
    }

    /** A node of this head with new leaves of these names. */
    static int leaves(SequenceMatch x, int head, int... names) {
        int node = x.node(head);
        for (int name : names) {
            x.more(node, x.leaf(name));
        }
        return node;
    }

    /** A node of this head that has the same part as often as told. */
    static int repeat(SequenceMatch x, int head, int part, int times) {
        int node = x.node(head);
        for (int k = 0; k < times; k++) {
            x.more(node, part);
        }
        return node;
    }

    /** Nodes of head 0 round the innermost tree, as many as told. */
    static int chain(SequenceMatch x, int innermost, int levels) {
        int tree = innermost;
        for (int level = 0; level < levels; level++) {
            tree = node(x, 0, tree);
        }
        return tree;
    }

    /** Leaves up to the last tree that there is room for. */
    static void fill(SequenceMatch x) {
        for (int tree = x.count(0); tree < 240; tree++) {
            x.leaf(0);
        }
    }

    /** The numbers of a tree's parts. */
    static String parts(SequenceMatch x, int tree) {
        StringBuilder all = new StringBuilder();
        for (int k = 0; k < x.parts(tree); k++) {
            all.append(k == 0 ? "" : " ").append(x.part(tree, k));
        }
        return all.toString();
    }

    /** The rules that net() told last. */
    static String told(SequenceMatch x) {
        StringBuilder all = new StringBuilder();
        for (int k = 0; x.rules(k) >= 0; k++) {
            all.append(k == 0 ? "" : " ").append(x.rules(k));
        }
        return all.toString();
    }

    /** What a name has in each match that is kept: "-" for nothing, else the numbers of its trees in brackets. */
    static String given(SequenceMatch x, int name) {
        StringBuilder all = new StringBuilder();
        for (int match = 0; match < x.count(2); match++) {
            all.append(match == 0 ? "" : " ").append(row(x, match, name));
        }
        return all.toString();
    }

    private static String row(SequenceMatch x, int match, int name) {
        int many = x.many(match, name);
        if (many < 0) {
            return "-";
        }
        StringBuilder row = new StringBuilder("[");
        for (int k = 0; k < many; k++) {
            row.append(k == 0 ? "" : ",").append(x.bound(match, name, k));
        }
        return row.append("]").toString();
    }

    /** All that can be read without a call that changes something: the same ahead of a refused call and behind it. */
    static String state(SequenceMatch x) {
        StringBuilder all = new StringBuilder();
        all.append(x.count(0)).append(" trees, ").append(x.count(1)).append(" rules, ");
        all.append(x.tried()).append(" tries, told ").append(told(x));
        for (int name = 0; name < 8; name++) {
            all.append("; ").append(given(x, name));
        }
        for (int tree = 0; tree < x.count(0); tree++) {
            all.append("; ").append(parts(x, tree));
        }
        return all.toString();
    }
}
