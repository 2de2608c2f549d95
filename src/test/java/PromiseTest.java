/** Each promise of the document by itself: ordinary inputs, the edges that it names, wrong inputs. */
public final class PromiseTest {
    private static final Check check = new Check("PromiseTest");

    public static void main(String[] args) {
        newObject();
        leaf();
        node();
        more();
        moreLimits();
        moreDepth();
        moreInOrder();
        hole();
        test();
        testKinds();
        testKindsOfNone();
        matchKinds();
        matchRows();
        matchAnyOrder();
        matchNames();
        matchNested();
        matchSpentAndKept();
        matchWrong();
        tried();
        bound();
        many();
        rule();
        net();
        netCounts();
        netStarts();
        first();
        firstSpent();
        firstExactlySpent();
        order();
        partsAndPart();
        count();
        check.end();
    }

    private static void newObject() {
        SequenceMatch x = new SequenceMatch();
        check.is("no trees", 0, () -> x.count(0));
        check.is("no rules", 0, () -> x.count(1));
        check.is("no matches", 0, () -> x.count(2));
        check.is("no tries", 0, x::tried);
        check.is("nothing told", -1, () -> x.rules(0));
        check.throwsIndex("no tree 0", () -> x.parts(0));
        check.throwsIndex("no match 0", () -> x.many(0, 0));
        SequenceMatch y = new SequenceMatch();
        x.leaf(1);
        check.is("objects are apart", 0, () -> y.count(0));
    }

    private static void leaf() {
        SequenceMatch x = new SequenceMatch();
        check.is("the first leaf", 0, () -> x.leaf(0));
        check.is("a second one", 1, () -> x.leaf(99));
        check.is("the same name again", 2, () -> x.leaf(99));
        check.throwsArgument("name -1", () -> x.leaf(-1));
        check.throwsArgument("name 100", () -> x.leaf(100));
        check.throwsArgument("lowest name", () -> x.leaf(Build.LOW));
        check.throwsArgument("highest name", () -> x.leaf(Build.HIGH));
        check.is("nothing changed", 3, () -> x.count(0));
        Build.fill(x);
        check.throwsState("no room", () -> x.leaf(0));
        check.throwsArgument("no such name goes ahead of no room", () -> x.leaf(100));
        check.is("240 trees", 240, () -> x.count(0));
    }

    private static void node() {
        SequenceMatch x = new SequenceMatch();
        check.is("head 0", 0, () -> x.node(0));
        check.is("head 9", 1, () -> x.node(9));
        check.is("without parts", 0, () -> x.parts(1));
        check.throwsArgument("head -1", () -> x.node(-1));
        check.throwsArgument("head 10", () -> x.node(10));
        Build.fill(x);
        check.throwsState("no room", () -> x.node(0));
        check.throwsArgument("no such head goes ahead of no room", () -> x.node(10));
    }

    private static void more() {
        SequenceMatch x = new SequenceMatch();
        int leaf = x.leaf(1);
        int hole = x.hole(0, Build.ONE);
        int inner = x.node(0);
        int outer = x.node(0);
        check.isTrue("a part", () -> x.more(outer, leaf));
        check.isTrue("the same part again", () -> x.more(outer, leaf));
        check.isTrue("a node", () -> x.more(outer, inner));
        check.is("they stand as they come", inner, () -> x.part(outer, 2));
        check.throwsArgument("a part already", () -> x.more(inner, leaf));
        check.throwsArgument("a leaf is no node", () -> x.more(leaf, leaf));
        check.throwsArgument("a hole is no node", () -> x.more(hole, leaf));
        check.throwsArgument("the node itself", () -> x.more(outer, outer));
        check.throwsIndex("no such node", () -> x.more(4, leaf));
        check.throwsIndex("no such part", () -> x.more(outer, 4));
        check.throwsIndex("no such part goes ahead of no node", () -> x.more(leaf, -1));
        check.throwsIndex("node -1", () -> x.more(Build.LOW, leaf));
        check.is("nothing changed", 3, () -> x.parts(outer));
        int ruled = x.node(0);
        x.rule(ruled);
        check.throwsArgument("a rule already", () -> x.more(ruled, leaf));
        check.isTrue("a rule may be a part", () -> x.more(outer, ruled));
    }

    private static void moreLimits() {
        SequenceMatch x = new SequenceMatch();
        int leaf = x.leaf(1);
        int full = Build.node(x, 0, leaf, leaf, leaf, leaf, leaf, leaf, leaf, leaf, leaf, leaf, leaf);
        check.isTrue("part 12", () -> x.more(full, leaf));
        check.isFalse("no part 13", () -> x.more(full, leaf));
        check.is("still 12", 12, () -> x.parts(full));
        int free = x.node(0);
        check.isFalse("refused for the 12", () -> x.more(full, free));
        check.isTrue("what was refused is no part", () -> x.more(free, leaf));
        check.throwsArgument("the node itself goes ahead of false", () -> x.more(full, full));

        // 13 trees each: 1 + 5 * 13 = 66 trees.
        int wide = Build.node(x, 1, full, full, full, full, full);
        int four = Build.node(x, 0, leaf, leaf, leaf);
        int five = Build.node(x, 0, leaf, leaf, leaf, leaf);
        check.throwsArgument("71 trees", () -> x.more(wide, five));
        check.isTrue("70 trees", () -> x.more(wide, four));
        check.throwsArgument("one more", () -> x.more(wide, leaf));
        check.is("six parts", 6, () -> x.parts(wide));
        check.is("70 trees match themselves", 1, () -> x.match(wide, wide, 400));
        check.is("by a try each", 70, x::tried);
    }

    /** A tree with parts within parts 20 deep, the innermost being this one. */
    private static int deepest(SequenceMatch x, int innermost) {
        int deep = innermost;
        for (int depth = 0; depth < 20; depth++) {
            int outer = x.node(0);
            int part = deep;
            check.isTrue("a part " + depth + " deep", () -> x.more(outer, part));
            deep = outer;
        }
        return deep;
    }

    private static void moreDepth() {
        SequenceMatch x = new SequenceMatch();
        int leaf = x.leaf(1);
        int deepest = deepest(x, leaf);
        int other = deepest(x, x.leaf(2));
        int top = x.node(0);
        check.throwsArgument("a part 20 deep", () -> x.more(top, deepest));
        check.is("nothing changed", 0, () -> x.parts(top));
        check.is("the deepest parts differ", -1, () -> x.order(deepest, other));
        check.is("so it is no match", 0, () -> x.match(deepest, other, 400));
        check.is("by 21 tries", 21, x::tried);
        check.isTrue("it may take parts itself", () -> x.more(deepest, leaf));
        check.is("it matches itself", 1, () -> x.match(deepest, deepest, 400));
        check.is("by 22 tries", 22, x::tried);
        int bare = deepest(x, x.node(3));
        check.throwsArgument("a node without parts is 0 deep, as a leaf is", () -> x.more(top, bare));
    }

    private static void moreInOrder() {
        SequenceMatch x = new SequenceMatch();
        int three = x.leaf(3);
        int one = x.leaf(1);
        int oneAgain = x.leaf(1);
        int inner = x.node(0);
        int hole = x.hole(0, Build.MANY);
        int any = Build.node(x, 5, inner, three, oneAgain, one);
        check.is("equal ones as they came", oneAgain, () -> x.part(any, 0));
        check.is("the second of them", one, () -> x.part(any, 1));
        check.is("then the higher name", three, () -> x.part(any, 2));
        check.is("nodes behind leaves", inner, () -> x.part(any, 3));
        int mixed = Build.node(x, 9, three, one, hole, oneAgain, one);
        check.is("in order while it is plain", one, () -> x.part(mixed, 0));
        check.is("the other", three, () -> x.part(mixed, 1));
        check.is("a hole stands as it comes", hole, () -> x.part(mixed, 2));
        check.is("so do those behind it", oneAgain, () -> x.part(mixed, 3));
        int nested = Build.node(x, 6, three, Build.node(x, 0, hole), one);
        check.is("a part with a hole within it, too", one, () -> x.part(nested, 2));
        int row = Build.node(x, 4, three, one);
        check.is("other heads have them as they come", three, () -> x.part(row, 0));
    }

    private static void hole() {
        SequenceMatch x = new SequenceMatch();
        check.is("name 0, kind 0", 0, () -> x.hole(0, 0));
        check.is("name 7, kind 3", 1, () -> x.hole(7, 3));
        check.throwsArgument("name -1", () -> x.hole(-1, 0));
        check.throwsArgument("name 8", () -> x.hole(8, 0));
        check.throwsArgument("kind -1", () -> x.hole(0, -1));
        check.throwsArgument("kind 4", () -> x.hole(0, 4));
        check.is("no parts", 0, () -> x.parts(1));
        check.throwsArgument("it isn't plain", () -> x.net(1));
        Build.fill(x);
        check.throwsState("no room", () -> x.hole(0, 0));
        check.throwsArgument("no such kind goes ahead of no room", () -> x.hole(0, 4));
    }

    private static void test() {
        SequenceMatch x = new SequenceMatch();
        int hole = x.hole(0, Build.ONE);
        int leaf = x.leaf(5);
        int node = x.node(0);
        check.throwsIndex("no such tree", () -> x.test(3, 0, 0));
        check.throwsIndex("it goes ahead of no such kind", () -> x.test(-1, 9, 0));
        check.throwsArgument("a leaf is no hole", () -> x.test(leaf, 0, 0));
        check.throwsArgument("a node is no hole", () -> x.test(node, 0, 0));
        check.throwsArgument("kind 5", () -> x.test(hole, 5, 0));
        check.throwsArgument("kind -1", () -> x.test(hole, -1, 0));
        check.isTrue("a first", () -> x.test(hole, 0, Build.LOW));
        check.isTrue("a second", () -> x.test(hole, 1, Build.HIGH));
        check.isTrue("a third", () -> x.test(hole, 0, 4));
        check.isFalse("no fourth", () -> x.test(hole, 0, 9));
        check.throwsArgument("no such kind goes ahead of false", () -> x.test(hole, 5, 0));
        check.is("the fourth isn't asked", 1, () -> x.match(hole, leaf, 1));
        int four = x.leaf(4);
        check.is("the third is", 0, () -> x.match(hole, four, 1));
        int used = x.hole(1, Build.ONE);
        Build.node(x, 0, used);
        check.isTrue("a hole that is a part takes tests", () -> x.test(used, 0, 0));
    }

    /** How many matches a hole ONE with this test has with a tree. */
    private static int tested(SequenceMatch x, int kind, int v, int tree) {
        int hole = x.hole(0, Build.ONE);
        x.test(hole, kind, v);
        return x.match(hole, tree, 1);
    }

    private static void testKinds() {
        SequenceMatch x = new SequenceMatch();
        int five = x.leaf(5);
        int node = x.node(5);
        check.is("above 4", 1, () -> tested(x, 0, 4, five));
        check.is("not above 5", 0, () -> tested(x, 0, 5, five));
        check.is("a node is above nothing", 0, () -> tested(x, 0, 4, node));
        check.is("below 6", 1, () -> tested(x, 1, 6, five));
        check.is("not below 5", 0, () -> tested(x, 1, 5, five));
        check.is("a node is below nothing", 0, () -> tested(x, 1, 6, node));
        check.is("one at least", 1, () -> tested(x, 2, 1, five));
        check.is("not two", 0, () -> tested(x, 2, 2, five));
        check.is("fewer than none", 1, () -> tested(x, 2, Build.LOW, node));
        check.is("head 5", 1, () -> tested(x, 3, 5, node));
        check.is("not head 4", 0, () -> tested(x, 3, 4, node));
        check.is("a leaf 5 has no head", 0, () -> tested(x, 3, 5, five));
        check.is("not a leaf", 1, () -> tested(x, 4, 0, node));
        check.is("a leaf", 0, () -> tested(x, 4, 0, five));
    }

    /** Matches of a node with one hole MANY, with this test, beside nodes of 0, 1 and 2 leaves 5, as three digits. */
    private static int testedRows(SequenceMatch x, int kind, int v) {
        int hole = x.hole(0, Build.MANY);
        x.test(hole, kind, v);
        int pattern = Build.node(x, 0, hole);
        int digits = 0;
        digits += 100 * x.match(pattern, Build.leaves(x, 0), 400);
        digits += 10 * x.match(pattern, Build.leaves(x, 0, 5), 400);
        digits += x.match(pattern, Build.leaves(x, 0, 5, 5), 400);
        return digits;
    }

    private static void testKindsOfNone() {
        SequenceMatch x = new SequenceMatch();
        check.is("one leaf above 4", 10, () -> testedRows(x, 0, 4));
        check.is("one leaf below 6", 10, () -> testedRows(x, 1, 6));
        check.is("none at least", 111, () -> testedRows(x, 2, 0));
        check.is("one at least", 11, () -> testedRows(x, 2, 1));
        check.is("two at least", 1, () -> testedRows(x, 2, 2));
        check.is("one node", 0, () -> testedRows(x, 3, 0));
        check.is("none is not one that isn't a leaf", 0, () -> testedRows(x, 4, 0));
    }

    private static void matchKinds() {
        SequenceMatch x = new SequenceMatch();
        int leaf = x.leaf(7);
        int same = x.leaf(7);
        int other = x.leaf(8);
        int node = x.node(7);
        check.is("the same name", 1, () -> x.match(leaf, same, 400));
        check.is("another name", 0, () -> x.match(leaf, other, 400));
        check.is("a leaf isn't a node", 0, () -> x.match(leaf, node, 400));
        check.is("a node isn't a leaf", 0, () -> x.match(node, leaf, 400));
        for (int kind = Build.ONE; kind <= Build.MANY; kind++) {
            int hole = x.hole(3, kind);
            check.is("a leaf beside kind " + kind, 1, () -> x.match(hole, leaf, 1));
            check.is("it has one tree", 1, () -> x.many(0, 3));
            check.is("which is the leaf", leaf, () -> x.bound(0, 3, 0));
            check.is("a node beside kind " + kind, hole == 5 ? 0 : 1, () -> x.match(hole, node, 1));
            check.is("one try", 1, x::tried);
        }
        check.is("nodes without parts", 1, () -> x.match(node, node, 400));
        int head6 = x.node(6);
        check.is("another head", 0, () -> x.match(head6, node, 400));
        int filled = Build.leaves(x, 7, 1);
        check.is("a row of none beside a part", 0, () -> x.match(node, filled, 400));
        check.is("a part beside none", 0, () -> x.match(filled, node, 400));
        check.is("which is no try", 1, x::tried);
    }

    private static void matchRows() {
        SequenceMatch x = new SequenceMatch();
        int tree = Build.leaves(x, 0, 1, 2, 3);
        int same = Build.leaves(x, 0, 1, 2, 3);
        int turned = Build.leaves(x, 0, 2, 1, 3);
        int shorter = Build.leaves(x, 0, 1, 2);
        check.is("the same row", 1, () -> x.match(same, tree, 400));
        check.is("four tries", 4, x::tried);
        check.is("turned", 0, () -> x.match(turned, tree, 400));
        check.is("two tries", 2, x::tried);
        check.is("a tree is left", 0, () -> x.match(shorter, tree, 400));
        check.is("three tries", 3, x::tried);
        check.is("none is left for a part", 0, () -> x.match(tree, shorter, 400));
        check.is("three tries, too", 3, x::tried);

        int some = x.hole(0, Build.SOME);
        int many = x.hole(1, Build.MANY);
        int pattern = Build.node(x, 0, some, many);
        check.is("SOME, MANY", 3, () -> x.match(pattern, tree, 400));
        // 1 and, for 1, 2, 3 trees beside SOME: 1 + 3, 1 + 2, 1 + 1.
        check.is("ten tries", 10, x::tried);
        for (int m = 0; m < 3; m++) {
            int match = m;
            check.is("less ahead of more, SOME", match + 1, () -> x.many(match, 0));
            check.is("MANY the others", 2 - match, () -> x.many(match, 1));
            check.is("from the first on", x.part(tree, 0), () -> x.bound(match, 0, 0));
        }
        int empty = x.node(0);
        int onlyMany = Build.node(x, 0, many);
        int onlySome = Build.node(x, 0, some);
        check.is("MANY beside none", 1, () -> x.match(onlyMany, empty, 400));
        check.is("a try, too", 2, x::tried);
        check.is("it has none", 0, () -> x.many(0, 1));
        check.is("SOME beside none", 0, () -> x.match(onlySome, empty, 400));
        check.is("no try", 1, x::tried);
    }

    private static void matchAnyOrder() {
        SequenceMatch x = new SequenceMatch();
        int tree = Build.leaves(x, 5, 1, 2, 3, 4);
        int many = x.hole(0, Build.MANY);
        int rest = x.hole(1, Build.MANY);
        int pattern = Build.node(x, 5, many, rest);
        check.is("16 ways", 16, () -> x.match(pattern, tree, 400));
        // 1 and, for each choice of k of 4, 1 + 2^(4 - k).
        check.is("tries", 1 + 16 + 81, x::tried);
        String[] due = {"", "1", "2", "3", "4", "12", "13", "14", "23", "24", "34", "123", "124", "134", "234", "1234"};
        for (int m = 0; m < 16; m++) {
            StringBuilder got = new StringBuilder();
            for (int k = 0; k < x.many(m, 0); k++) {
                got.append(x.bound(m, 0, k) - tree);
            }
            check.same("choice " + m, due[m], got.toString());
        }
        int one = x.hole(2, Build.ONE);
        int three = Build.node(x, 5, one, x.leaf(3), x.hole(3, Build.SOME));
        check.is("one of those left, a leaf, the others", 3, () -> x.match(three, tree, 400));
        check.is("the first first", tree + 1, () -> x.bound(0, 2, 0));
        check.is("then the second", tree + 2, () -> x.bound(1, 2, 0));
        check.is("the third is the leaf's", tree + 4, () -> x.bound(2, 2, 0));
        check.is("those left", tree + 1, () -> x.bound(2, 3, 0));
        int twice = Build.leaves(x, 5, 6, 6);
        check.is("equal trees are ways of their own", 2, () -> x.match(twice, twice, 400));
        int inRow = Build.leaves(x, 4, 1, 2);
        int rowTurned = Build.leaves(x, 4, 2, 1);
        check.is("head 4 is in a row", 0, () -> x.match(rowTurned, inRow, 400));
    }

    private static void matchNames() {
        SequenceMatch x = new SequenceMatch();
        int hole = x.hole(0, Build.ONE);
        int pair = Build.node(x, 0, hole, hole);
        int same = Build.leaves(x, 0, 4, 4);
        int other = Build.leaves(x, 0, 4, 5);
        check.is("the same again", 1, () -> x.match(pair, same, 400));
        check.is("the name has the first of them", x.part(same, 0), () -> x.bound(0, 0, 0));
        check.is("one tree", 1, () -> x.many(0, 0));
        check.is("another one", 0, () -> x.match(pair, other, 400));
        check.is("three tries", 3, x::tried);
        int nested = Build.node(x, 0, Build.leaves(x, 6, 2, 1), Build.leaves(x, 6, 1, 2));
        check.is("equal nodes", 1, () -> x.match(pair, nested, 400));

        int many = x.hole(1, Build.MANY);
        int manyAgain = x.hole(1, Build.MANY);
        int rows = Build.node(x, 0, many, x.leaf(9), manyAgain);
        int even = Build.leaves(x, 0, 1, 2, 9, 1, 2);
        int uneven = Build.leaves(x, 0, 1, 2, 9, 1);
        int bare = Build.leaves(x, 0, 9);
        check.is("rows of two", 1, () -> x.match(rows, even, 400));
        check.is("as many", 2, () -> x.many(0, 1));
        check.is("not as many", 0, () -> x.match(rows, uneven, 400));
        check.is("a row of none is something", 1, () -> x.match(rows, bare, 400));
        check.is("and the same again", 0, () -> x.many(0, 1));
        int behind = Build.leaves(x, 0, 9, 1);
        check.is("none isn't one", 0, () -> x.match(rows, behind, 400));
        int mixed = Build.node(x, 0, x.hole(2, Build.SOME), x.hole(2, Build.ONE));
        check.is("holes of other kinds share a name", 1, () -> x.match(mixed, same, 400));
    }

    private static void matchNested() {
        SequenceMatch x = new SequenceMatch();
        int a = x.leaf(1);
        int b = x.leaf(2);
        int inner = Build.node(x, 1, a);
        int tree = Build.node(x, 0, inner, b);
        int short1 = Build.node(x, 0, Build.node(x, 1, a));
        check.is("a tree is left in the outer row", 0, () -> x.match(short1, tree, 400));
        check.is("its own row came ahead of that", 3, x::tried);
        int wrongEnd = Build.node(x, 0, Build.node(x, 1), b);
        check.is("a tree is left in the inner row", 0, () -> x.match(wrongEnd, tree, 400));
        check.is("what is behind isn't tried", 2, x::tried);
        int two = Build.node(x, 0, Build.node(x, 5, a, b), Build.node(x, 5, a, b));
        int left = x.hole(0, Build.ONE);
        int leftRest = x.hole(1, Build.MANY);
        int right = x.hole(2, Build.ONE);
        int rightRest = x.hole(3, Build.MANY);
        int pattern = Build.node(x, 0, Build.node(x, 5, left, leftRest), Build.node(x, 5, right, rightRest));
        check.is("ways of both rows", 4, () -> x.match(pattern, two, 400));
        // The inner row: 1, and for each of two trees 1 + 2; its two ways each go on with the other row.
        check.is("tries", 1 + 7 + 2 * 7, x::tried);
        check.is("the inner choice stays", a, () -> x.bound(1, 0, 0));
        check.is("while the later one goes on", b, () -> x.bound(1, 2, 0));
        check.is("then it goes on, too", b, () -> x.bound(2, 0, 0));
    }

    private static void matchSpentAndKept() {
        SequenceMatch x = new SequenceMatch();
        int tree = Build.leaves(x, 5, 1, 2, 3, 4, 5);
        int pattern = Build.node(x, 5, x.hole(0, Build.MANY), x.hole(1, Build.MANY));
        check.is("32 matches", 32, () -> x.match(pattern, tree, 400));
        check.is("20 are kept", 20, () -> x.count(2));
        int needed = x.tried();
        check.is("1 + 32 + 243 tries", 276, () -> needed);
        check.throwsIndex("match 20", () -> x.many(20, 0));
        check.is("just enough tries", 32, () -> x.match(pattern, tree, needed));
        check.is("one too few", -1, () -> x.match(pattern, tree, needed - 1));
        check.is("those that were told", needed - 1, x::tried);
        check.is("20 are kept, also when it is spent", 20, () -> x.count(2));
        // Root, none, then rows of 0 and of 1, 2, 3, 4, 5 trees: the first match is the last of 32.
        check.is("spent ahead of the first match", -1, () -> x.match(pattern, tree, 33));
        check.is("none kept", 0, () -> x.count(2));
        check.is("spent behind the first match", -1, () -> x.match(pattern, tree, 34));
        check.is("one kept", 1, () -> x.count(2));
        check.is("no tries", -1, () -> x.match(pattern, tree, 0));
        check.is("none made", 0, x::tried);
        check.is("none kept again", 0, () -> x.count(2));
        int leaf = x.leaf(1);
        check.is("one try is enough for a leaf", 1, () -> x.match(leaf, leaf, 1));
        check.is("a name without a hole", -1, () -> x.many(0, 0));
        int wide = Build.leaves(x, 5, 1, 2, 3, 4, 5, 6, 7, 8, 9, 10, 11, 12);
        check.is("twelve are too many", -1, () -> x.match(pattern, wide, 400));
        check.is("400 tries", 400, x::tried);
    }

    private static void matchWrong() {
        SequenceMatch x = new SequenceMatch();
        int leaf = x.leaf(1);
        int hole = x.hole(0, Build.ONE);
        int holed = Build.node(x, 0, Build.node(x, 0, hole));
        x.match(hole, leaf, 5);
        check.throwsIndex("no such pattern", () -> x.match(99, leaf, 400));
        check.throwsIndex("no such tree", () -> x.match(leaf, 99, 400));
        check.throwsIndex("pattern -1", () -> x.match(-1, leaf, 400));
        check.throwsIndex("no such tree goes ahead of the tries", () -> x.match(leaf, Build.LOW, 401));
        check.throwsIndex("no such pattern goes ahead of not plain", () -> x.match(Build.HIGH, hole, 400));
        check.throwsArgument("a hole isn't plain", () -> x.match(leaf, hole, 400));
        check.throwsArgument("a hole deep within", () -> x.match(leaf, holed, 400));
        check.throwsArgument("401 tries", () -> x.match(leaf, leaf, 401));
        check.throwsArgument("-1 tries", () -> x.match(leaf, leaf, -1));
        check.is("nothing changed: tries", 1, x::tried);
        check.is("nothing changed: matches", 1, () -> x.count(2));
        check.is("nothing changed: trees", leaf, () -> x.bound(0, 0, 0));
    }

    private static void tried() {
        SequenceMatch x = new SequenceMatch();
        check.is("0 without any", 0, x::tried);
        int leaf = x.leaf(1);
        int hole = x.hole(0, Build.ONE);
        int tree = Build.node(x, 0, leaf, leaf);
        int pattern = Build.node(x, 0, hole, hole);
        x.match(pattern, tree, 400);
        check.is("of a match", 3, x::tried);
        x.match(pattern, tree, 2);
        check.is("of a spent one", 2, x::tried);
        x.first(tree);
        check.is("of first() without rules", 0, x::tried);
        x.rule(leaf);
        x.match(pattern, tree, 400);
        x.first(tree);
        check.is("of first() when no rule may match", 0, x::tried);
        x.rule(pattern);
        x.first(tree);
        check.is("of first()", 3, x::tried);
        x.net(tree);
        x.order(tree, leaf);
        check.is("others leave it", 3, x::tried);
    }

    private static void bound() {
        SequenceMatch x = new SequenceMatch();
        int tree = Build.leaves(x, 0, 1, 2, 3);
        int pattern = Build.node(x, 0, x.hole(7, Build.MANY), x.hole(0, Build.LEAF));
        x.match(pattern, tree, 400);
        check.is("tree 0 of a name", tree + 1, () -> x.bound(0, 7, 0));
        check.is("tree 1", tree + 2, () -> x.bound(0, 7, 1));
        check.is("no tree 2", -1, () -> x.bound(0, 7, 2));
        check.is("no tree -1", -1, () -> x.bound(0, 7, -1));
        check.is("none of the highest number", -1, () -> x.bound(0, 7, Build.HIGH));
        check.is("another name", tree + 3, () -> x.bound(0, 0, 0));
        check.is("a name that has nothing", -1, () -> x.bound(0, 1, 0));
        check.throwsArgument("name 8", () -> x.bound(0, 8, 0));
        check.throwsArgument("name -1", () -> x.bound(0, -1, 0));
        check.throwsIndex("match 1", () -> x.bound(1, 7, 0));
        check.throwsIndex("match -1", () -> x.bound(-1, 7, 0));
        check.throwsIndex("no such match goes ahead of no such name", () -> x.bound(1, 8, 0));
    }

    private static void many() {
        SequenceMatch x = new SequenceMatch();
        int tree = Build.leaves(x, 0, 1, 2, 3);
        int pattern = Build.node(x, 0, x.hole(7, Build.MANY), x.hole(6, Build.MANY));
        x.match(pattern, tree, 400);
        check.is("a row of none", 0, () -> x.many(0, 7));
        check.is("a row of three", 3, () -> x.many(0, 6));
        check.is("the last match", 3, () -> x.many(3, 7));
        check.is("nothing", -1, () -> x.many(0, 5));
        check.throwsArgument("name 8", () -> x.many(0, 8));
        check.throwsArgument("name -1", () -> x.many(0, -1));
        check.throwsIndex("match 4", () -> x.many(4, 7));
        check.throwsIndex("match -1", () -> x.many(-1, 7));
        check.throwsIndex("no such match goes ahead of no such name", () -> x.many(4, 8));
        int leaf = x.leaf(1);
        x.match(leaf, tree, 400);
        check.throwsIndex("the next match() makes these anew", () -> x.many(0, 7));
    }

    private static void rule() {
        SequenceMatch x = new SequenceMatch();
        int leaf = x.leaf(1);
        int hole = x.hole(0, Build.ONE);
        check.throwsIndex("no such tree", () -> x.rule(2));
        check.throwsIndex("tree -1", () -> x.rule(-1));
        check.is("the first rule", 0, () -> x.rule(leaf));
        check.is("a hole", 1, () -> x.rule(hole));
        check.is("the same again", 2, () -> x.rule(leaf));
        for (int r = 3; r < 30; r++) {
            check.is("rule " + r, r, () -> x.rule(hole));
        }
        check.throwsState("no room", () -> x.rule(leaf));
        check.throwsIndex("no such tree goes ahead of no room", () -> x.rule(2));
        check.is("30 rules", 30, () -> x.count(1));
        int node = x.node(0);
        check.throwsState("still no room", () -> x.rule(node));
        check.isTrue("what was refused is no rule", () -> x.more(node, leaf));
    }

    private static void net() {
        SequenceMatch x = new SequenceMatch();
        int leaf = x.leaf(1);
        int node = x.node(0);
        int hole = x.hole(0, Build.ONE);
        check.is("no rules", 0, () -> x.net(leaf));
        x.rule(hole);
        x.rule(x.hole(0, Build.LEAF));
        x.rule(x.hole(0, Build.SOME));
        x.rule(x.hole(0, Build.MANY));
        x.rule(x.leaf(1));
        x.rule(x.leaf(2));
        x.rule(x.node(0));
        x.rule(x.node(1));
        int tested = x.hole(0, Build.ONE);
        x.test(tested, 0, 50);
        x.rule(tested);
        check.is("those of a leaf", 6, () -> x.net(leaf));
        check.same("by numbers", "0 1 2 3 4 8", Build.told(x));
        check.is("those of a node", 5, () -> x.net(node));
        check.same("by numbers", "0 2 3 6 8", Build.told(x));
        check.is("none behind them", -1, () -> x.rules(5));
        check.is("none at -1", -1, () -> x.rules(-1));
        check.is("none at the lowest", -1, () -> x.rules(Build.LOW));
        check.throwsIndex("no such tree", () -> x.net(99));
        check.throwsArgument("not plain", () -> x.net(hole));
        x.rule(x.hole(0, Build.ONE));
        x.first(leaf);
        check.same("told until the next time", "0 2 3 6 8", Build.told(x));
        check.is("the new rule is told then", 6, () -> x.net(node));
    }

    private static void netCounts() {
        SequenceMatch x = new SequenceMatch();
        int one = x.hole(0, Build.ONE);
        int some = x.hole(1, Build.SOME);
        int many = x.hole(2, Build.MANY);
        x.rule(Build.node(x, 0, one, one));
        x.rule(Build.node(x, 0, one, some));
        x.rule(Build.node(x, 0, one, many));
        x.rule(Build.node(x, 0, many, many));
        x.rule(Build.node(x, 0));
        x.rule(Build.node(x, 5, one, many));
        String[] due = {"3 4", "2 3", "0 1 2 3", "1 2 3"};
        int[][] names = {{}, {1}, {1, 1}, {1, 1, 1}};
        for (int i = 0; i < due.length; i++) {
            x.net(Build.leaves(x, 0, names[i]));
            check.same("rules for " + i + " parts", due[i], Build.told(x));
        }
        x.net(Build.leaves(x, 5));
        check.same("in any order, none", "", Build.told(x));
        x.net(Build.leaves(x, 5, 1, 2, 3));
        check.same("in any order, three", "5", Build.told(x));
    }

    private static void netStarts() {
        SequenceMatch x = new SequenceMatch();
        int many = x.hole(2, Build.MANY);
        x.rule(Build.node(x, 4, x.leaf(1), many));
        x.rule(Build.node(x, 4, x.leaf(2), many));
        x.rule(Build.node(x, 4, x.node(1), many));
        x.rule(Build.node(x, 4, Build.node(x, 2, x.leaf(1)), many));
        x.rule(Build.node(x, 4, many, x.leaf(1)));
        x.rule(Build.node(x, 5, x.leaf(1), many));
        x.net(Build.leaves(x, 4, 1, 1));
        check.same("a leaf of the same name", "0 4", Build.told(x));
        x.net(Build.leaves(x, 4, 2, 1));
        check.same("the other name", "1 4", Build.told(x));
        x.net(Build.node(x, 4, x.node(1)));
        check.same("a node of the same head", "2 4", Build.told(x));
        x.net(Build.node(x, 4, x.node(2), x.leaf(1)));
        check.same("its parts aren't asked", "3 4", Build.told(x));
        x.net(Build.leaves(x, 5, 7, 8));
        check.same("in any order the first part isn't asked", "5", Build.told(x));
    }

    private static void first() {
        SequenceMatch x = new SequenceMatch();
        int leaf = x.leaf(1);
        int tree = Build.leaves(x, 0, 3, 4);
        int equalPair = Build.node(x, 0, x.hole(0, Build.ONE), x.hole(0, Build.ONE));
        int pair = Build.node(x, 0, x.hole(1, Build.ONE), x.hole(2, Build.ONE));
        check.is("no rule", -1, () -> x.first(leaf));
        x.rule(leaf);
        x.rule(equalPair);
        x.rule(pair);
        x.rule(x.hole(3, Build.ONE));
        check.is("the first that has a match", 2, () -> x.first(tree));
        check.is("its matches are kept", 1, () -> x.count(2));
        check.is("with their trees", tree + 2, () -> x.bound(0, 2, 0));
        check.is("nothing of the rule ahead of it", -1, () -> x.many(0, 0));
        check.is("tries of the last rule asked", 3, x::tried);
        check.is("a leaf", 0, () -> x.first(leaf));
        int hole = x.hole(0, Build.ONE);
        check.throwsIndex("no such tree", () -> x.first(99));
        check.throwsIndex("tree -1", () -> x.first(-1));
        check.throwsArgument("not plain", () -> x.first(hole));
        check.is("nothing changed: matches", 1, () -> x.count(2));
        check.is("nothing changed: tries", 1, x::tried);

        SequenceMatch y = new SequenceMatch();
        int two = Build.leaves(y, 0, 3, 4);
        int any = y.hole(0, Build.ONE);
        y.match(any, two, 1);
        check.is("no rules", -1, () -> y.first(two));
        check.is("none being kept", 0, () -> y.count(2));
        y.rule(Build.node(y, 0, y.hole(0, Build.ONE), y.hole(0, Build.ONE)));
        y.match(any, two, 1);
        check.is("none has a match", -1, () -> y.first(two));
        check.is("none being kept then", 0, () -> y.count(2));
        check.is("the tries of that rule", 3, y::tried);
    }

    private static void firstSpent() {
        SequenceMatch x = new SequenceMatch();
        int wide = Build.leaves(x, 5, 1, 2, 3, 4, 5, 6, 7);
        int all = x.hole(0, Build.MANY);
        int rest = x.hole(1, Build.MANY);
        int none = x.leaf(99);
        // Each of the 128 choices leaves 2 to the power of what is left, and no leaf is 99: far above 400 tries.
        x.rule(Build.node(x, 5, all, rest, none));
        check.is("spent without a match", -1, () -> x.first(wide));
        check.is("those left, all 400", 400, x::tried);
        x.rule(x.hole(2, Build.ONE));
        check.is("those behind it have no tries left", -1, () -> x.first(wide));
        check.is("and make none", 0, x::tried);
        check.is("none kept", 0, () -> x.count(2));
        check.is("a tree that only the hole may match", 1, () -> x.first(none));

        SequenceMatch y = new SequenceMatch();
        int tree = Build.leaves(y, 5, 1, 2, 3, 4, 5, 6, 7);
        y.rule(Build.node(y, 5, y.hole(0, Build.ONE), y.leaf(98)));
        y.rule(Build.node(y, 5, y.hole(0, Build.MANY), y.hole(1, Build.MANY)));
        check.is("a spent rule has what it found by then", 1, () -> y.first(tree));
        // 1 + (1 + 128) tries to the first match, 1 + 64 more to each of the next seven: four are within 400.
        check.is("those are kept", 5, () -> y.count(2));
        // The rule ahead of it may not match: a node of seven parts isn't one of two.
        check.is("all 400 were its own", 400, y::tried);
    }

    private static void firstExactlySpent() {
        SequenceMatch x = new SequenceMatch();
        int tree = Build.leaves(x, 5, 1, 2, 3);
        int vain = Build.node(x, 5, x.hole(0, Build.ONE), x.hole(1, Build.MANY), x.leaf(50));
        x.match(vain, tree, 400);
        // 1, and for each of three trees 1 + (1 + 2) + (1 + 1) * 2 + 1.
        int each = x.tried();
        check.is("tries of the vain rule", 28, () -> each);
        for (int r = 0; r < 14; r++) {
            x.rule(vain);
        }
        x.rule(Build.node(x, 5, x.hole(0, Build.MANY)));
        // 14 * 28 = 392 of 400: root and rows of 0, and of 1: 1 + 1 + 3, then 3 rows of 2: 8 tries; the ninth is due.
        check.is("the last rule is spent one try ahead of its match", -1, () -> x.first(tree));
        check.is("those left", 8, x::tried);
        check.is("none kept", 0, () -> x.count(2));
    }

    private static void order() {
        SequenceMatch x = new SequenceMatch();
        int[] rising = {
            x.leaf(0), x.leaf(1), x.leaf(99), x.node(0), Build.leaves(x, 0, 1), Build.leaves(x, 0, 2),
            Build.node(x, 0, x.node(0)), Build.leaves(x, 0, 0, 0), Build.leaves(x, 0, 0, 1), Build.leaves(x, 0, 1, 0),
            x.node(1), x.node(5), Build.leaves(x, 9, 3)};
        for (int i = 0; i < rising.length; i++) {
            for (int j = 0; j < rising.length; j++) {
                int a = rising[i];
                int b = rising[j];
                check.is("order of " + i + " and " + j, Integer.compare(i, j), () -> x.order(a, b));
            }
        }
        int some = Build.leaves(x, 6, 2, 1);
        int turned = Build.leaves(x, 6, 1, 2);
        check.is("any order makes them equal", 0, () -> x.order(some, turned));
        int hole = x.hole(0, Build.ONE);
        int holed = Build.node(x, 0, hole);
        check.throwsArgument("the first isn't plain", () -> x.order(hole, some));
        check.throwsArgument("the second isn't plain", () -> x.order(some, holed));
        check.throwsIndex("no such first tree", () -> x.order(239, some));
        check.throwsIndex("no such second tree", () -> x.order(some, -1));
        check.throwsIndex("no such tree goes ahead of not plain", () -> x.order(hole, 239));
    }

    private static void partsAndPart() {
        SequenceMatch x = new SequenceMatch();
        int tree = Build.leaves(x, 0, 5, 6);
        int hole = x.hole(0, Build.ONE);
        check.is("two parts", 2, () -> x.parts(tree));
        check.is("a leaf has none", 0, () -> x.parts(tree + 1));
        check.is("a hole has none", 0, () -> x.parts(hole));
        check.throwsIndex("no such tree", () -> x.parts(4));
        check.throwsIndex("tree -1", () -> x.parts(-1));
        check.is("part 0", tree + 1, () -> x.part(tree, 0));
        check.is("part 1", tree + 2, () -> x.part(tree, 1));
        check.is("no part 2", -1, () -> x.part(tree, 2));
        check.is("no part 12", -1, () -> x.part(tree, 12));
        check.is("no part -1", -1, () -> x.part(tree, -1));
        check.is("no part of the highest number", -1, () -> x.part(tree, Build.HIGH));
        check.is("no part of a leaf", -1, () -> x.part(tree + 1, 0));
        check.throwsIndex("no such tree has no part", () -> x.part(4, 0));
        check.throwsIndex("nor has tree -1", () -> x.part(Build.LOW, 0));
    }

    private static void count() {
        SequenceMatch x = new SequenceMatch();
        int tree = Build.leaves(x, 0, 5, 6);
        x.rule(tree);
        x.match(tree, tree, 400);
        check.is("trees", 3, () -> x.count(0));
        check.is("rules", 1, () -> x.count(1));
        check.is("matches", 1, () -> x.count(2));
        check.is("what 3", -1, () -> x.count(3));
        check.is("what -1", -1, () -> x.count(-1));
        check.is("the highest what", -1, () -> x.count(Build.HIGH));
    }
}
