/** Boundary cases of how a pattern fits a tree: promise 7, as the Terms say it. */
final class MatchBoundaries {
    private MatchBoundaries() {
    }

    // What fits.

    static void promise7_leafFitsTheSameNameAlone(Check check) {
        SequenceMatch x = new SequenceMatch();
        int leaf = x.leaf(5);
        int same = x.leaf(5);
        int lower = x.leaf(4);
        int higher = x.leaf(6);
        check.is("5 beside 5", 1, () -> x.match(leaf, same, 1));
        check.is("5 beside 4", 0, () -> x.match(leaf, lower, 1));
        check.is("5 beside 6", 0, () -> x.match(leaf, higher, 1));
    }

    static void promise7_leafAndNodeOfOneNumberDoNotFit(Check check) {
        SequenceMatch x = new SequenceMatch();
        int leaf = x.leaf(5);
        int node = x.node(5);
        check.is("leaf 5 beside node 5", 0, () -> x.match(leaf, node, 1));
        check.is("node 5 beside leaf 5", 0, () -> x.match(node, leaf, 1));
    }

    static void promise7_nodeFitsTheSameHeadAlone(Check check) {
        SequenceMatch x = new SequenceMatch();
        int node = x.node(5);
        int same = x.node(5);
        int lower = x.node(4);
        int higher = x.node(6);
        check.is("5 beside 5", 1, () -> x.match(node, same, 1));
        check.is("5 beside 4", 0, () -> x.match(node, lower, 1));
        check.is("5 beside 6", 0, () -> x.match(node, higher, 1));
    }

    static void promise7_bareNodeFitsABareNodeAlone(Check check) {
        SequenceMatch x = new SequenceMatch();
        for (int head : new int[] {4, 5}) {
            int bare = x.node(head);
            int other = x.node(head);
            int filled = Build.leaves(x, head, 1);
            check.is("bare beside bare", 1, () -> x.match(bare, other, 400));
            check.is("a tree is left", 0, () -> x.match(bare, filled, 400));
            check.is("none for a part", 0, () -> x.match(filled, bare, 400));
        }
    }

    static void promise7_plainTreeIsAPattern(Check check) {
        SequenceMatch x = new SequenceMatch();
        int tree = Build.node(x, 0, Build.leaves(x, 1, 1, 2), x.leaf(3));
        check.is("beside itself", 1, () -> x.match(tree, tree, 400));
        check.is("no name has something", -1, () -> x.many(0, 0));
    }

    static void promise7_holeOneFitsAnyTree(Check check) {
        SequenceMatch x = new SequenceMatch();
        int hole = x.hole(0, Build.ONE);
        int leaf = x.leaf(1);
        int bare = x.node(1);
        int deep = Build.chain(x, leaf, 20);
        check.is("a leaf", 1, () -> x.match(hole, leaf, 1));
        check.is("a bare node", 1, () -> x.match(hole, bare, 1));
        check.is("a deep node", 1, () -> x.match(hole, deep, 1));
        check.is("which it has", deep, () -> x.bound(0, 0, 0));
    }

    static void promise7_holeLeafFitsLeavesAlone(Check check) {
        SequenceMatch x = new SequenceMatch();
        int hole = x.hole(0, Build.LEAF);
        int leaf = x.leaf(0);
        int bare = x.node(0);
        check.is("a leaf", 1, () -> x.match(hole, leaf, 1));
        check.is("a bare node", 0, () -> x.match(hole, bare, 1));
        int inRow = Build.node(x, 0, hole);
        int leafInRow = Build.node(x, 0, leaf);
        int nodeInRow = Build.node(x, 0, bare);
        check.is("a leaf in a row", 1, () -> x.match(inRow, leafInRow, 400));
        check.is("a node in a row", 0, () -> x.match(inRow, nodeInRow, 400));
    }

    static void promise7_someAloneIsBesideOneTree(Check check) {
        SequenceMatch x = new SequenceMatch();
        int hole = x.hole(0, Build.SOME);
        int tree = Build.leaves(x, 0, 1, 2);
        check.is("matches", 1, () -> x.match(hole, tree, 400));
        check.same("the tree itself", "[" + tree + "]", Build.given(x, 0));
        check.is("tries", 1, x::tried);
    }

    static void promise7_manyAloneIsBesideOneTree(Check check) {
        SequenceMatch x = new SequenceMatch();
        int hole = x.hole(0, Build.MANY);
        int bare = x.node(5);
        check.is("matches", 1, () -> x.match(hole, bare, 400));
        check.same("the tree itself", "[" + bare + "]", Build.given(x, 0));
        check.is("tries", 1, x::tried);
    }

    // Rows.

    static void promise7_someIsBesideOneAtLeast(Check check) {
        SequenceMatch x = new SequenceMatch();
        for (int head : new int[] {4, 5}) {
            int pattern = Build.node(x, head, x.hole(0, Build.SOME));
            int none = x.node(head);
            int one = Build.leaves(x, head, 1);
            check.is("SOME beside none", 0, () -> x.match(pattern, none, 400));
            check.is("SOME beside one", 1, () -> x.match(pattern, one, 400));
        }
    }

    static void promise7_manyIsBesideNone(Check check) {
        SequenceMatch x = new SequenceMatch();
        for (int head : new int[] {4, 5}) {
            int pattern = Build.node(x, head, x.hole(0, Build.MANY));
            int none = x.node(head);
            check.is("MANY beside none", 1, () -> x.match(pattern, none, 400));
            check.same("a row of none", "[]", Build.given(x, 0));
        }
    }

    static void promise7_someAndManyAreBeside12(Check check) {
        SequenceMatch x = new SequenceMatch();
        int tree = Build.repeat(x, 0, x.leaf(1), 12);
        int some = Build.node(x, 0, x.hole(0, Build.SOME));
        int many = Build.node(x, 0, x.hole(0, Build.MANY));
        check.is("SOME", 1, () -> x.match(some, tree, 400));
        check.is("has 12", 12, () -> x.many(0, 0));
        check.is("MANY", 1, () -> x.match(many, tree, 400));
        check.is("has 12, too", 12, () -> x.many(0, 0));
    }

    static void promise7_oneIsBesideOneAlone(Check check) {
        SequenceMatch x = new SequenceMatch();
        for (int head : new int[] {4, 5}) {
            int pattern = Build.node(x, head, x.hole(0, Build.ONE));
            int none = x.node(head);
            int one = Build.leaves(x, head, 1);
            int two = Build.leaves(x, head, 1, 2);
            check.is("beside none", 0, () -> x.match(pattern, none, 400));
            check.is("beside one", 1, () -> x.match(pattern, one, 400));
            check.is("beside two", 0, () -> x.match(pattern, two, 400));
        }
    }

    static void promise7_inTheEndNoTreeIsLeft(Check check) {
        SequenceMatch x = new SequenceMatch();
        for (int head : new int[] {4, 5}) {
            int two = Build.leaves(x, head, 1, 2);
            int three = Build.leaves(x, head, 1, 2, 3);
            check.is("two beside three", 0, () -> x.match(two, three, 400));
            check.is("three beside two", 0, () -> x.match(three, two, 400));
            check.is("three beside three", 1, () -> x.match(three, three, 400));
        }
    }

    static void promise7_rowTakesTheNextTreeAlone(Check check) {
        SequenceMatch x = new SequenceMatch();
        int pattern = Build.node(x, 4, x.leaf(2), x.hole(0, Build.ONE));
        int ahead = Build.leaves(x, 4, 2, 1);
        int behind = Build.leaves(x, 4, 1, 2);
        check.is("2 1", 1, () -> x.match(pattern, ahead, 400));
        check.is("1 2", 0, () -> x.match(pattern, behind, 400));
    }

    static void promise7_anyOrderTakesOneOfThoseLeft(Check check) {
        SequenceMatch x = new SequenceMatch();
        int pattern = Build.node(x, 5, x.leaf(2), x.hole(0, Build.ONE));
        int tree = Build.leaves(x, 5, 1, 2);
        check.is("matches", 1, () -> x.match(pattern, tree, 400));
        check.same("the other one", "[" + (tree + 1) + "]", Build.given(x, 0));
    }

    static void promise7_firstOfThoseLeftIsFirst(Check check) {
        SequenceMatch x = new SequenceMatch();
        int pattern = Build.node(x, 5, x.hole(0, Build.ONE), x.hole(1, Build.ONE), x.hole(2, Build.ONE));
        int tree = Build.leaves(x, 5, 1, 2, 3);
        check.is("matches", 6, () -> x.match(pattern, tree, 400));
        check.same("name 0", "[T1] [T1] [T2] [T2] [T3] [T3]", named(Build.given(x, 0), tree, 3));
        check.same("name 1", "[T2] [T3] [T1] [T3] [T1] [T2]", named(Build.given(x, 1), tree, 3));
        check.same("name 2", "[T3] [T2] [T3] [T1] [T2] [T1]", named(Build.given(x, 2), tree, 3));
    }

    /** The trees behind `tree`, which are its leaves, written as T1, T2 .. */
    private static String named(String given, int tree, int leaves) {
        String all = given;
        for (int k = leaves; k >= 1; k--) {
            all = all.replaceAll("(?<![T0-9])" + (tree + k) + "(?![0-9])", "T" + k);
        }
        return all;
    }

    static void promise7_eachOfTwelveLeftIsReached(Check check) {
        SequenceMatch x = new SequenceMatch();
        int tree = Build.leaves(x, 5, 1, 2, 3, 4, 5, 6, 7, 8, 9, 10, 11, 12);
        int last = Build.leaves(x, 5, 12);
        check.is("one leaf beside twelve", 0, () -> x.match(last, tree, 400));
        check.is("a try for each", 1 + 12, x::tried);
        check.is("twelve leaves beside themselves", 1, () -> x.match(tree, tree, 400));
        check.is("12 and 11 and 10 .. tries", 1 + 78, x::tried);
    }

    static void promise7_severalInARowLessAheadOfMore(Check check) {
        SequenceMatch x = new SequenceMatch();
        int pattern = Build.node(x, 0, x.hole(0, Build.MANY), x.hole(1, Build.SOME));
        int tree = Build.leaves(x, 0, 1, 2, 3);
        check.is("matches", 3, () -> x.match(pattern, tree, 400));
        check.same("MANY", "[] [T1] [T1,T2]", named(Build.given(x, 0), tree, 3));
        check.same("SOME", "[T1,T2,T3] [T2,T3] [T3]", named(Build.given(x, 1), tree, 3));
    }

    static void promise7_severalInARowAreTheNextOnes(Check check) {
        SequenceMatch x = new SequenceMatch();
        int pattern = Build.node(x, 4, x.hole(0, Build.ONE), x.hole(1, Build.SOME), x.hole(2, Build.MANY));
        int tree = Build.leaves(x, 4, 1, 2, 3);
        check.is("matches", 2, () -> x.match(pattern, tree, 400));
        check.same("SOME", "[T2] [T2,T3]", named(Build.given(x, 1), tree, 3));
        check.same("MANY", "[T3] []", named(Build.given(x, 2), tree, 3));
    }

    static void promise7_severalInAnyOrderEarlierTreesFirst(Check check) {
        SequenceMatch x = new SequenceMatch();
        int pattern = Build.node(x, 5, x.hole(0, Build.MANY), x.hole(1, Build.MANY));
        int tree = Build.leaves(x, 5, 1, 2, 3);
        check.is("matches", 8, () -> x.match(pattern, tree, 400));
        check.same("name 0", "[] [T1] [T2] [T3] [T1,T2] [T1,T3] [T2,T3] [T1,T2,T3]",
                named(Build.given(x, 0), tree, 3));
        check.same("name 1", "[T1,T2,T3] [T2,T3] [T1,T3] [T1,T2] [T3] [T2] [T1] []",
                named(Build.given(x, 1), tree, 3));
    }

    static void promise7_someInAnyOrderBeginsWithOne(Check check) {
        SequenceMatch x = new SequenceMatch();
        int pattern = Build.node(x, 9, x.hole(0, Build.SOME), x.hole(1, Build.SOME));
        int tree = Build.leaves(x, 9, 1, 2, 3);
        check.is("matches", 6, () -> x.match(pattern, tree, 400));
        check.same("name 0", "[T1] [T2] [T3] [T1,T2] [T1,T3] [T2,T3]", named(Build.given(x, 0), tree, 3));
    }

    static void promise7_someInAnyOrderReachesTheLastOfTwelve(Check check) {
        SequenceMatch x = new SequenceMatch();
        int hole = x.hole(0, Build.SOME);
        x.test(hole, 0, 11);
        int pattern = Build.node(x, 5, hole);
        for (int name = 1; name <= 11; name++) {
            x.more(pattern, x.leaf(name));
        }
        int tree = Build.leaves(x, 5, 1, 2, 3, 4, 5, 6, 7, 8, 9, 10, 11, 12);
        // The root, 12 choices of one, and 11 leaves, each beside the first of those left: the match is at try 24.
        check.is("all choices of four are too many", -1, () -> x.match(pattern, tree, 400));
        check.same("leaf 12", "[T12]", named(Build.given(x, 0), tree, 12));
        check.is("24 tries", -1, () -> x.match(pattern, tree, 24));
        check.is("kept", 1, () -> x.count(2));
        check.is("23 tries", -1, () -> x.match(pattern, tree, 23));
        check.is("none kept", 0, () -> x.count(2));
    }

    static void promise7_severalOfThoseLeftWithGaps(Check check) {
        SequenceMatch x = new SequenceMatch();
        int pattern = Build.node(x, 5, x.leaf(2), x.hole(0, Build.SOME), x.hole(1, Build.MANY));
        int tree = Build.leaves(x, 5, 1, 2, 3, 4);
        check.is("matches", 7, () -> x.match(pattern, tree, 400));
        check.same("name 0", "[T1] [T3] [T4] [T1,T3] [T1,T4] [T3,T4] [T1,T3,T4]", named(Build.given(x, 0), tree, 4));
    }

    static void promise7_head4IsARowHead5IsAnyOrder(Check check) {
        SequenceMatch x = new SequenceMatch();
        int inRow = Build.node(x, 4, x.hole(0, Build.ONE), x.hole(1, Build.ONE));
        int rowTree = Build.leaves(x, 4, 1, 2);
        check.is("head 4", 1, () -> x.match(inRow, rowTree, 400));
        int inAny = Build.node(x, 5, x.hole(0, Build.ONE), x.hole(1, Build.ONE));
        int anyTree = Build.leaves(x, 5, 1, 2);
        check.is("head 5", 2, () -> x.match(inAny, anyTree, 400));
    }

    static void promise7_sixHolesBesideFiveTrees(Check check) {
        SequenceMatch x = new SequenceMatch();
        int hole = x.hole(0, Build.ONE);
        int pattern = Build.repeat(x, 5, hole, 6);
        int tree = Build.repeat(x, 5, x.leaf(1), 5);
        check.is("all ways end with none for the last", 0, () -> x.match(pattern, tree, 400));
        check.is("tries", 1 + 5 + 20 + 60 + 120 + 120, x::tried);
        int seven = Build.repeat(x, 5, hole, 7);
        int six = Build.repeat(x, 5, x.leaf(1), 6);
        check.is("seven beside six", -1, () -> x.match(seven, six, 400));
        check.is("spent", 400, x::tried);
    }

    static void promise7_equalTreesAreWaysOfTheirOwn(Check check) {
        SequenceMatch x = new SequenceMatch();
        int tree = Build.repeat(x, 5, x.leaf(1), 3);
        check.is("3 leaves beside themselves", 6, () -> x.match(tree, tree, 400));
    }

    static void promise7_innerRowComesAheadOfTheRestOfTheOuter(Check check) {
        SequenceMatch x = new SequenceMatch();
        int inner = Build.node(x, 5, x.hole(0, Build.ONE), x.hole(1, Build.ONE));
        int pattern = Build.node(x, 5, inner, x.hole(2, Build.ONE));
        int one = Build.leaves(x, 5, 1, 2);
        int other = Build.leaves(x, 5, 3, 4);
        int tree = Build.node(x, 5, one, other);
        check.is("matches", 4, () -> x.match(pattern, tree, 400));
        check.same("the inner choices of one, then of the other",
                "[" + (one + 1) + "] [" + (one + 2) + "] [" + (other + 1) + "] [" + (other + 2) + "]",
                Build.given(x, 0));
        // The root; for each of two trees the node, then 2 + 2 in its row, and the last hole behind each way.
        check.is("tries", 1 + 2 * (1 + 4 + 2), x::tried);
    }

    static void promise7_innerRowEndsAheadOfTheRestOfTheOuter(Check check) {
        SequenceMatch x = new SequenceMatch();
        int pattern = Build.node(x, 0, x.node(1), x.leaf(9));
        int tree = Build.node(x, 0, Build.leaves(x, 1, 1), x.leaf(9));
        check.is("a tree is left within", 0, () -> x.match(pattern, tree, 400));
        check.is("the leaf isn't tried", 2, x::tried);
    }

    static void promise7_outerRowEndsBehindTheInnerOne(Check check) {
        SequenceMatch x = new SequenceMatch();
        int leaf = x.leaf(9);
        int pattern = Build.node(x, 0, Build.node(x, 1, leaf));
        int tree = Build.node(x, 0, Build.node(x, 1, leaf), leaf);
        check.is("a tree is left without", 0, () -> x.match(pattern, tree, 400));
        check.is("the inner leaf is tried", 3, x::tried);
    }

    static void promise7_rowsEndTogetherAtTheDeepest(Check check) {
        SequenceMatch x = new SequenceMatch();
        int hole = x.hole(0, Build.MANY);
        int pattern = Build.chain(x, hole, 20);
        int leaf = x.leaf(1);
        int tree = Build.chain(x, leaf, 20);
        check.is("20 rows of one", 1, () -> x.match(pattern, tree, 400));
        check.same("the leaf", "[" + leaf + "]", Build.given(x, 0));
        check.is("tries", 22, x::tried);
        x.more(tree, leaf);
        check.is("a tree left in the outermost", 0, () -> x.match(pattern, tree, 400));
    }

    static void promise7_70TreesBesideThemselves(Check check) {
        SequenceMatch x = new SequenceMatch();
        int leaf = x.leaf(1);
        int tree = Build.repeat(x, 0, Build.repeat(x, 0, leaf, 12), 5);
        x.more(tree, Build.repeat(x, 0, leaf, 3));
        check.is("70 trees", 1, () -> x.match(tree, tree, 400));
        check.is("tries", 70, x::tried);
    }

    // Names.

    static void promise7_nameMustBeTheSameAgain(Check check) {
        SequenceMatch x = new SequenceMatch();
        int pattern = Build.node(x, 0, x.hole(0, Build.ONE), x.hole(0, Build.ONE));
        int same = Build.leaves(x, 0, 1, 1);
        int other = Build.leaves(x, 0, 1, 2);
        check.is("equal leaves", 1, () -> x.match(pattern, same, 400));
        check.same("it has the first", "[" + (same + 1) + "]", Build.given(x, 0));
        check.is("other leaves", 0, () -> x.match(pattern, other, 400));
    }

    static void promise7_sameAgainIsEqualNotIdentical(Check check) {
        SequenceMatch x = new SequenceMatch();
        int pattern = Build.node(x, 0, x.hole(0, Build.ONE), x.hole(0, Build.ONE));
        int one = Build.leaves(x, 5, 1, 2);
        int turned = Build.leaves(x, 5, 2, 1);
        int tree = Build.node(x, 0, one, turned);
        check.is("in any order", 1, () -> x.match(pattern, tree, 400));
        int differs = Build.node(x, 0, Build.leaves(x, 4, 1, 2), Build.leaves(x, 4, 2, 1));
        check.is("in a row", 0, () -> x.match(pattern, differs, 400));
    }

    static void promise7_rowOfNoneIsSomething(Check check) {
        SequenceMatch x = new SequenceMatch();
        int pattern = Build.node(x, 0, x.hole(0, Build.MANY), x.leaf(9), x.hole(0, Build.ONE));
        int tree = Build.leaves(x, 0, 9, 1);
        check.is("none, then one", 0, () -> x.match(pattern, tree, 400));
        // The root, none, the leaf, the hole; one, the leaf beside 1: and two, with nothing left.
        check.is("tries", 7, x::tried);
    }

    static void promise7_rowOfNoneIsTheSameAsNone(Check check) {
        SequenceMatch x = new SequenceMatch();
        int pattern = Build.node(x, 0, x.hole(0, Build.MANY), x.leaf(9), x.hole(0, Build.MANY));
        int tree = Build.leaves(x, 0, 9);
        check.is("none, then none", 1, () -> x.match(pattern, tree, 400));
        check.same("a row of none", "[]", Build.given(x, 0));
    }

    static void promise7_sameAgainIsAsManyTrees(Check check) {
        SequenceMatch x = new SequenceMatch();
        int pattern = Build.node(x, 0, x.hole(0, Build.SOME), x.leaf(9), x.hole(0, Build.SOME));
        int asMany = Build.leaves(x, 0, 1, 2, 9, 1, 2);
        int less = Build.leaves(x, 0, 1, 2, 9, 1);
        int more = Build.leaves(x, 0, 1, 9, 1, 2);
        check.is("as many", 1, () -> x.match(pattern, asMany, 400));
        check.is("less", 0, () -> x.match(pattern, less, 400));
        check.is("more", 0, () -> x.match(pattern, more, 400));
    }

    static void promise7_sameAgainEachTreeIsEqual(Check check) {
        SequenceMatch x = new SequenceMatch();
        int pattern = Build.node(x, 0, x.hole(0, Build.SOME), x.leaf(9), x.hole(0, Build.SOME));
        int first = Build.leaves(x, 0, 1, 2, 9, 3, 2);
        int last = Build.leaves(x, 0, 1, 2, 9, 1, 3);
        check.is("the first differs", 0, () -> x.match(pattern, first, 400));
        check.is("the last differs", 0, () -> x.match(pattern, last, 400));
    }

    static void promise7_sameAgainOf6And6(Check check) {
        SequenceMatch x = new SequenceMatch();
        int pattern = Build.node(x, 0, x.hole(7, Build.SOME), x.hole(7, Build.SOME));
        int tree = Build.leaves(x, 0, 1, 2, 3, 4, 5, 6, 1, 2, 3, 4, 5, 6);
        check.is("halves", 1, () -> x.match(pattern, tree, 400));
        check.is("six", 6, () -> x.many(0, 7));
        check.is("the first half", tree + 6, () -> x.bound(0, 7, 5));
    }

    static void promise7_holesOfOtherKindsShareAName(Check check) {
        SequenceMatch x = new SequenceMatch();
        int pattern = Build.node(x, 0, x.hole(0, Build.MANY), x.hole(0, Build.LEAF));
        int tree = Build.leaves(x, 0, 4, 4);
        check.is("one leaf and the same again", 1, () -> x.match(pattern, tree, 400));
        check.is("one tree", 1, () -> x.many(0, 0));
    }

    static void promise7_eachNameIsItsOwn(Check check) {
        SequenceMatch x = new SequenceMatch();
        int pattern = x.node(0);
        int tree = x.node(0);
        for (int name = 0; name < 8; name++) {
            x.more(pattern, x.hole(name, Build.ONE));
            x.more(tree, x.leaf(name));
        }
        check.is("eight names", 1, () -> x.match(pattern, tree, 400));
        for (int name = 0; name < 8; name++) {
            int n = name;
            check.is("name " + name, x.part(tree, name), () -> x.bound(0, n, 0));
        }
    }

    static void promise7_nameIsFreeOnTheNextWay(Check check) {
        SequenceMatch x = new SequenceMatch();
        int pattern = Build.node(x, 5, x.hole(0, Build.ONE), x.hole(0, Build.ONE), x.hole(1, Build.MANY));
        int tree = Build.leaves(x, 5, 1, 2, 2);
        check.is("the twos, either ahead", 2, () -> x.match(pattern, tree, 400));
        check.same("name 0", "[T2] [T3]", named(Build.given(x, 0), tree, 3));
        check.same("name 1", "[T1] [T1]", named(Build.given(x, 1), tree, 3));
    }

    static void promise7_nameIsFreeInTheNextMatch(Check check) {
        SequenceMatch x = new SequenceMatch();
        int hole = x.hole(0, Build.ONE);
        int one = x.leaf(1);
        int two = x.leaf(2);
        check.is("beside 1", 1, () -> x.match(hole, one, 400));
        check.is("beside 2", 1, () -> x.match(hole, two, 400));
        check.is("which it has", two, () -> x.bound(0, 0, 0));
    }

    static void promise7_nameIsFreeBehindASpentMatch(Check check) {
        SequenceMatch x = new SequenceMatch();
        int hole = x.hole(0, Build.ONE);
        int pair = Build.node(x, 0, hole, x.leaf(9));
        int tree = Build.leaves(x, 0, 1, 9);
        int two = x.leaf(2);
        check.is("spent with the name given", -1, () -> x.match(pair, tree, 2));
        check.is("beside 2", 1, () -> x.match(hole, two, 400));
    }

    static void promise7_nameIsFreeBehindAFailedTest(Check check) {
        SequenceMatch x = new SequenceMatch();
        int hole = x.hole(0, Build.ONE);
        x.test(hole, 0, 1);
        int pattern = Build.node(x, 5, hole, x.hole(0, Build.MANY), x.hole(1, Build.ONE));
        int tree = Build.leaves(x, 5, 1, 2, 2);
        check.is("the test refuses leaf 1", 2, () -> x.match(pattern, tree, 400));
        check.same("name 0", "[T2] [T3]", named(Build.given(x, 0), tree, 3));
    }

    static void promise7_nameIsTheSameAcrossRows(Check check) {
        SequenceMatch x = new SequenceMatch();
        int pattern = Build.node(x, 0, Build.node(x, 5, x.hole(0, Build.ONE), x.hole(1, Build.MANY)),
                x.hole(0, Build.ONE));
        int tree = Build.node(x, 0, Build.leaves(x, 5, 1, 2), x.leaf(2));
        check.is("the inner 2 is the outer 2", 1, () -> x.match(pattern, tree, 400));
        check.is("the inner one is kept", x.part(x.part(tree, 0), 1), () -> x.bound(0, 0, 0));
    }

    // What is refused.

    static void promise7_treeIsNotPlain(Check check) {
        SequenceMatch x = new SequenceMatch();
        int leaf = x.leaf(1);
        int hole = x.hole(0, Build.ONE);
        int deep = Build.chain(x, hole, 20);
        int last = Build.node(x, 0, leaf, leaf, hole);
        check.throwsArgument("a hole", () -> x.match(leaf, hole, 400));
        check.throwsArgument("a hole and itself", () -> x.match(hole, hole, 400));
        check.throwsArgument("a hole 20 deep", () -> x.match(leaf, deep, 400));
        check.throwsArgument("a hole as the last part", () -> x.match(leaf, last, 400));
    }

    static void promise7_noSuchPattern(Check check) {
        SequenceMatch x = new SequenceMatch();
        int leaf = x.leaf(1);
        check.throwsIndex("pattern -1", () -> x.match(-1, leaf, 400));
        check.throwsIndex("pattern 1 of 1", () -> x.match(1, leaf, 400));
        check.throwsIndex("the lowest int", () -> x.match(Build.LOW, leaf, 400));
        check.throwsIndex("the highest int", () -> x.match(Build.HIGH, leaf, 400));
    }

    static void promise7_noSuchTree(Check check) {
        SequenceMatch x = new SequenceMatch();
        int leaf = x.leaf(1);
        check.throwsIndex("tree -1", () -> x.match(leaf, -1, 400));
        check.throwsIndex("tree 1 of 1", () -> x.match(leaf, 1, 400));
        check.throwsIndex("the lowest int", () -> x.match(leaf, Build.LOW, 400));
        check.throwsIndex("the highest int", () -> x.match(leaf, Build.HIGH, 400));
    }

    static void promise7_noSuchTreeIsToldAheadOfTheOthers(Check check) {
        SequenceMatch x = new SequenceMatch();
        int hole = x.hole(0, Build.ONE);
        check.throwsIndex("no pattern, no plain tree", () -> x.match(9, hole, 400));
        check.throwsIndex("no pattern, 401 tries", () -> x.match(-1, hole, 401));
        check.throwsIndex("no tree, -1 tries", () -> x.match(hole, 9, -1));
    }

    static void promise7_refusedMatchChangesNothing(Check check) {
        SequenceMatch x = new SequenceMatch();
        int hole = x.hole(0, Build.MANY);
        int pattern = Build.node(x, 5, hole, x.hole(1, Build.MANY));
        int tree = Build.leaves(x, 5, 1, 2);
        x.match(pattern, tree, 400);
        String ahead = Build.state(x);
        check.throwsArgument("not plain", () -> x.match(pattern, pattern, 400));
        check.throwsArgument("401 tries", () -> x.match(hole, tree, 401));
        check.throwsArgument("-1 tries", () -> x.match(hole, tree, -1));
        check.throwsIndex("no such pattern", () -> x.match(99, tree, 400));
        check.throwsIndex("no such tree", () -> x.match(hole, 99, 400));
        check.same("the state", ahead, Build.state(x));
    }
}
