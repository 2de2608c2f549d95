import java.util.Arrays;

/** Boundary cases of making trees and reading them: promises 1 to 6 and 15 to 17. */
final class TreeBoundaries {
    private TreeBoundaries() {
    }

    // Promise 1: a new object.

    static void promise1_newObjectHasNoTrees(Check check) {
        SequenceMatch x = new SequenceMatch();
        check.is("count(0)", 0, () -> x.count(0));
        check.throwsIndex("parts(0)", () -> x.parts(0));
        check.throwsIndex("part(0, 0)", () -> x.part(0, 0));
    }

    static void promise1_newObjectHasNoRules(Check check) {
        SequenceMatch x = new SequenceMatch();
        check.is("count(1)", 0, () -> x.count(1));
        check.is("rules(0)", -1, () -> x.rules(0));
        int leaf = x.leaf(1);
        check.is("net(leaf)", 0, () -> x.net(leaf));
    }

    static void promise1_newObjectHasNoMatches(Check check) {
        SequenceMatch x = new SequenceMatch();
        check.is("count(2)", 0, () -> x.count(2));
        check.throwsIndex("many(0, 0)", () -> x.many(0, 0));
        check.throwsIndex("bound(0, 0, 0)", () -> x.bound(0, 0, 0));
    }

    static void promise1_objectsShareNothing(Check check) {
        SequenceMatch x = new SequenceMatch();
        SequenceMatch y = new SequenceMatch();
        int leaf = x.leaf(1);
        x.rule(leaf);
        x.net(leaf);
        x.match(leaf, leaf, 1);
        check.same("the other", Build.state(new SequenceMatch()), Build.state(y));
        check.is("its first tree", 0, () -> y.leaf(1));
    }

    static void promise1_call512IsAnswered(Check check) {
        SequenceMatch x = new SequenceMatch();
        int leaf = x.leaf(1);
        int hole = x.hole(0, Build.MANY);
        for (int call = 3; call < 512; call++) {
            x.match(hole, leaf, 400);
        }
        check.is("call 512", 1, () -> x.match(hole, leaf, 400));
    }

    // Promise 2: leaf.

    static void promise2_name0IsTheLowest(Check check) {
        SequenceMatch x = new SequenceMatch();
        check.is("leaf(0)", 0, () -> x.leaf(0));
    }

    static void promise2_name99IsTheHighest(Check check) {
        SequenceMatch x = new SequenceMatch();
        check.is("leaf(99)", 0, () -> x.leaf(99));
    }

    static void promise2_nameMinus1IsTooSmall(Check check) {
        SequenceMatch x = new SequenceMatch();
        check.throwsArgument("leaf(-1)", () -> x.leaf(-1));
        check.throwsArgument("the lowest int", () -> x.leaf(Build.LOW));
    }

    static void promise2_name100IsTooLarge(Check check) {
        SequenceMatch x = new SequenceMatch();
        check.throwsArgument("leaf(100)", () -> x.leaf(100));
        check.throwsArgument("the highest int", () -> x.leaf(Build.HIGH));
    }

    static void promise2_sameNameAgainIsAnotherTree(Check check) {
        SequenceMatch x = new SequenceMatch();
        x.leaf(7);
        check.is("the second leaf 7", 1, () -> x.leaf(7));
    }

    static void promise2_refusedNameMakesNoTree(Check check) {
        SequenceMatch x = new SequenceMatch();
        check.throwsArgument("leaf(100)", () -> x.leaf(100));
        check.is("count(0)", 0, () -> x.count(0));
        check.is("the next leaf", 0, () -> x.leaf(99));
    }

    static void promise2_tree239IsTheLast(Check check) {
        SequenceMatch x = new SequenceMatch();
        for (int tree = 0; tree < 239; tree++) {
            x.leaf(0);
        }
        check.is("leaf 240", 239, () -> x.leaf(0));
        check.throwsState("leaf 241", () -> x.leaf(0));
        check.is("count(0)", 240, () -> x.count(0));
    }

    static void promise2_wrongNameIsToldAheadOfNoRoom(Check check) {
        SequenceMatch x = new SequenceMatch();
        Build.fill(x);
        check.throwsArgument("leaf(100)", () -> x.leaf(100));
        check.throwsArgument("leaf(-1)", () -> x.leaf(-1));
    }

    // Promise 3: node.

    static void promise3_head0IsTheLowest(Check check) {
        SequenceMatch x = new SequenceMatch();
        check.is("node(0)", 0, () -> x.node(0));
    }

    static void promise3_head9IsTheHighest(Check check) {
        SequenceMatch x = new SequenceMatch();
        check.is("node(9)", 0, () -> x.node(9));
    }

    static void promise3_headMinus1IsTooSmall(Check check) {
        SequenceMatch x = new SequenceMatch();
        check.throwsArgument("node(-1)", () -> x.node(-1));
        check.throwsArgument("the lowest int", () -> x.node(Build.LOW));
    }

    static void promise3_head10IsTooLarge(Check check) {
        SequenceMatch x = new SequenceMatch();
        check.throwsArgument("node(10)", () -> x.node(10));
        check.throwsArgument("the highest int", () -> x.node(Build.HIGH));
    }

    static void promise3_newNodeHasNoParts(Check check) {
        SequenceMatch x = new SequenceMatch();
        int node = x.node(4);
        check.is("parts", 0, () -> x.parts(node));
        check.is("part 0", -1, () -> x.part(node, 0));
    }

    static void promise3_refusedHeadMakesNoTree(Check check) {
        SequenceMatch x = new SequenceMatch();
        check.throwsArgument("node(10)", () -> x.node(10));
        check.is("count(0)", 0, () -> x.count(0));
    }

    static void promise3_tree239IsTheLast(Check check) {
        SequenceMatch x = new SequenceMatch();
        for (int tree = 0; tree < 239; tree++) {
            x.node(0);
        }
        check.is("node 240", 239, () -> x.node(0));
        check.throwsState("node 241", () -> x.node(0));
        check.is("count(0)", 240, () -> x.count(0));
    }

    static void promise3_wrongHeadIsToldAheadOfNoRoom(Check check) {
        SequenceMatch x = new SequenceMatch();
        Build.fill(x);
        check.throwsArgument("node(10)", () -> x.node(10));
        check.throwsArgument("node(-1)", () -> x.node(-1));
    }

    // Promise 4: more. How many parts.

    static void promise4_part12IsTheLast(Check check) {
        SequenceMatch x = new SequenceMatch();
        int leaf = x.leaf(1);
        int node = Build.repeat(x, 0, leaf, 11);
        check.isTrue("part 12", () -> x.more(node, leaf));
        check.is("parts", 12, () -> x.parts(node));
    }

    static void promise4_part13IsFalse(Check check) {
        SequenceMatch x = new SequenceMatch();
        int leaf = x.leaf(1);
        int node = Build.repeat(x, 0, leaf, 12);
        check.isFalse("part 13", () -> x.more(node, leaf));
        check.is("parts", 12, () -> x.parts(node));
    }

    static void promise4_part13IsFalseInAnyOrder(Check check) {
        SequenceMatch x = new SequenceMatch();
        int node = Build.leaves(x, 5, 1, 2, 3, 4, 5, 6, 7, 8, 9, 10, 11, 12);
        int lower = x.leaf(0);
        String ahead = Build.parts(x, node);
        check.isFalse("part 13, ahead of the others", () -> x.more(node, lower));
        check.same("parts", ahead, Build.parts(x, node));
    }

    static void promise4_falseChangesNothing(Check check) {
        SequenceMatch x = new SequenceMatch();
        int node = Build.repeat(x, 0, x.leaf(1), 12);
        int free = x.node(1);
        int hole = x.hole(0, Build.ONE);
        String ahead = Build.state(x);
        check.isFalse("a node as part 13", () -> x.more(node, free));
        check.isFalse("a hole as part 13", () -> x.more(node, hole));
        check.same("the state", ahead, Build.state(x));
        check.isTrue("what was refused is no part", () -> x.more(free, hole));
        check.is("the full node is plain still", 0, () -> x.net(node));
    }

    static void promise4_samePartMayComeTwice(Check check) {
        SequenceMatch x = new SequenceMatch();
        int inner = x.node(1);
        int one = Build.node(x, 0, inner, inner);
        int other = Build.node(x, 0, inner);
        check.same("twice in one", inner + " " + inner, Build.parts(x, one));
        check.same("and in another", "" + inner, Build.parts(x, other));
    }

    // Promise 4: more. Where a part comes to stand.

    static void promise4_head4HasPartsAsTheyCome(Check check) {
        SequenceMatch x = new SequenceMatch();
        int node = Build.leaves(x, 4, 2, 1);
        check.same("parts", (node + 1) + " " + (node + 2), Build.parts(x, node));
    }

    static void promise4_head5HasPartsInOrder(Check check) {
        SequenceMatch x = new SequenceMatch();
        int node = Build.leaves(x, 5, 2, 1);
        check.same("parts", (node + 2) + " " + (node + 1), Build.parts(x, node));
    }

    static void promise4_head9HasPartsInOrder(Check check) {
        SequenceMatch x = new SequenceMatch();
        int node = Build.leaves(x, 9, 2, 1);
        check.same("parts", (node + 2) + " " + (node + 1), Build.parts(x, node));
    }

    static void promise4_partsComeAheadBetweenAndBehind(Check check) {
        SequenceMatch x = new SequenceMatch();
        int node = Build.leaves(x, 6, 2, 4, 1, 3, 5);
        int n = node;
        check.same("parts", (n + 3) + " " + (n + 1) + " " + (n + 4) + " " + (n + 2) + " " + (n + 5), Build.parts(x, n));
    }

    static void promise4_equalPartsStandAsTheyCame(Check check) {
        SequenceMatch x = new SequenceMatch();
        int later = x.leaf(3);
        int earlier = x.leaf(3);
        int node = Build.node(x, 5, earlier, x.leaf(9), later);
        check.is("the first to come", earlier, () -> x.part(node, 0));
        check.is("the second to come", later, () -> x.part(node, 1));
    }

    static void promise4_equalNodesStandAsTheyCame(Check check) {
        SequenceMatch x = new SequenceMatch();
        int later = Build.leaves(x, 7, 1, 2);
        int earlier = Build.leaves(x, 7, 2, 1);
        int node = Build.node(x, 5, earlier, later);
        check.same("parts", earlier + " " + later, Build.parts(x, node));
    }

    static void promise4_holeStandsAsItComes(Check check) {
        SequenceMatch x = new SequenceMatch();
        int node = x.node(5);
        int hole = x.hole(0, Build.ONE);
        int three = x.leaf(3);
        int one = x.leaf(1);
        x.more(node, three);
        x.more(node, one);
        x.more(node, hole);
        check.same("in order ahead of it", one + " " + three + " " + hole, Build.parts(x, node));
    }

    static void promise4_partsBehindAHoleStandAsTheyCome(Check check) {
        SequenceMatch x = new SequenceMatch();
        int hole = x.hole(0, Build.ONE);
        int three = x.leaf(3);
        int one = x.leaf(1);
        int node = Build.node(x, 5, three, hole, three, one);
        check.same("parts", three + " " + hole + " " + three + " " + one, Build.parts(x, node));
    }

    static void promise4_partWithAHoleDeepWithinStandsAsItComes(Check check) {
        SequenceMatch x = new SequenceMatch();
        int holed = Build.chain(x, x.hole(0, Build.ONE), 3);
        int nine = x.node(9);
        int one = x.leaf(1);
        int node = Build.node(x, 5, nine, holed, one);
        check.same("parts", nine + " " + holed + " " + one, Build.parts(x, node));
    }

    // Promise 4: more. What is refused.

    static void promise4_leafIsNoNode(Check check) {
        SequenceMatch x = new SequenceMatch();
        int leaf = x.leaf(1);
        int part = x.leaf(2);
        check.throwsArgument("more(leaf, part)", () -> x.more(leaf, part));
        check.is("parts", 0, () -> x.parts(leaf));
    }

    static void promise4_holeIsNoNode(Check check) {
        SequenceMatch x = new SequenceMatch();
        int hole = x.hole(1, Build.MANY);
        int part = x.leaf(2);
        check.throwsArgument("more(hole, part)", () -> x.more(hole, part));
        check.is("parts", 0, () -> x.parts(hole));
    }

    static void promise4_partOfAnotherTakesNoMore(Check check) {
        SequenceMatch x = new SequenceMatch();
        int leaf = x.leaf(1);
        int inner = x.node(1);
        Build.node(x, 0, inner);
        check.throwsArgument("more(inner, leaf)", () -> x.more(inner, leaf));
        check.is("parts", 0, () -> x.parts(inner));
    }

    static void promise4_ruleTakesNoMore(Check check) {
        SequenceMatch x = new SequenceMatch();
        int leaf = x.leaf(1);
        int node = x.node(1);
        x.rule(node);
        check.throwsArgument("more(rule, leaf)", () -> x.more(node, leaf));
        check.is("parts", 0, () -> x.parts(node));
    }

    static void promise4_partOfARuleTakesNoMore(Check check) {
        SequenceMatch x = new SequenceMatch();
        int leaf = x.leaf(1);
        int inner = x.node(1);
        x.rule(Build.node(x, 0, inner));
        check.throwsArgument("more(inner, leaf)", () -> x.more(inner, leaf));
    }

    static void promise4_ruleMayBeAPart(Check check) {
        SequenceMatch x = new SequenceMatch();
        int rule = x.node(1);
        x.rule(rule);
        int node = x.node(0);
        check.isTrue("more(node, rule)", () -> x.more(node, rule));
    }

    static void promise4_nodeMayNotBeItsOwnPart(Check check) {
        SequenceMatch x = new SequenceMatch();
        int node = x.node(0);
        check.throwsArgument("more(node, node)", () -> x.more(node, node));
        check.is("parts", 0, () -> x.parts(node));
        check.isTrue("it is no part by that", () -> x.more(node, x.leaf(1)));
    }

    static void promise4_nodeMayNotBeWithinItself(Check check) {
        SequenceMatch x = new SequenceMatch();
        int inner = x.node(0);
        int outer = Build.chain(x, inner, 2);
        check.throwsArgument("more(inner, outer)", () -> x.more(inner, outer));
        check.is("parts", 0, () -> x.parts(inner));
    }

    static void promise4_part19DeepIsTaken(Check check) {
        SequenceMatch x = new SequenceMatch();
        int part = Build.chain(x, x.leaf(1), 19);
        int node = x.node(0);
        check.isTrue("a part 19 deep", () -> x.more(node, part));
    }

    static void promise4_part20DeepIsRefused(Check check) {
        SequenceMatch x = new SequenceMatch();
        int part = Build.chain(x, x.leaf(1), 20);
        int node = x.node(0);
        check.throwsArgument("a part 20 deep", () -> x.more(node, part));
        check.is("parts", 0, () -> x.parts(node));
        check.isTrue("it is no part by that", () -> x.more(part, x.leaf(1)));
    }

    static void promise4_holeIs0Deep(Check check) {
        SequenceMatch x = new SequenceMatch();
        int node = x.node(0);
        int part = Build.chain(x, x.hole(0, Build.ONE), 20);
        check.throwsArgument("20 nodes round a hole", () -> x.more(node, part));
        int less = Build.chain(x, x.hole(0, Build.ONE), 19);
        check.isTrue("19 nodes round a hole", () -> x.more(node, less));
    }

    static void promise4_nodeWithoutPartsIs0Deep(Check check) {
        SequenceMatch x = new SequenceMatch();
        int node = x.node(0);
        int part = Build.chain(x, x.node(1), 20);
        check.throwsArgument("20 nodes round a bare one", () -> x.more(node, part));
        int less = Build.chain(x, x.node(1), 19);
        check.isTrue("19 nodes round a bare one", () -> x.more(node, less));
    }

    static void promise4_deepestPartTellsTheDepth(Check check) {
        SequenceMatch x = new SequenceMatch();
        int deep = Build.chain(x, x.leaf(1), 19);
        int part = Build.node(x, 0, x.leaf(1), deep, x.leaf(1));
        int node = x.node(0);
        check.throwsArgument("its second part is 19 deep", () -> x.more(node, part));
    }

    static void promise4_nodeOf20DeepTakesMore(Check check) {
        SequenceMatch x = new SequenceMatch();
        int deep = Build.chain(x, x.leaf(1), 20);
        int other = Build.chain(x, x.leaf(1), 19);
        check.isTrue("a part 19 deep beside another", () -> x.more(deep, other));
    }

    static void promise4_node70TreesWithinItIsTaken(Check check) {
        SequenceMatch x = new SequenceMatch();
        int leaf = x.leaf(1);
        // Itself and five times 13 trees: 66.
        int node = Build.repeat(x, 0, Build.repeat(x, 0, leaf, 12), 5);
        int four = Build.repeat(x, 0, leaf, 3);
        check.isTrue("70 trees", () -> x.more(node, four));
        check.is("parts", 6, () -> x.parts(node));
    }

    static void promise4_node71TreesWithinItIsRefused(Check check) {
        SequenceMatch x = new SequenceMatch();
        int leaf = x.leaf(1);
        int node = Build.repeat(x, 0, Build.repeat(x, 0, leaf, 12), 5);
        int five = Build.repeat(x, 0, leaf, 4);
        check.throwsArgument("71 trees", () -> x.more(node, five));
        check.is("parts", 5, () -> x.parts(node));
        check.isTrue("what was refused is no part", () -> x.more(five, leaf));
    }

    static void promise4_leafAsTree71IsRefused(Check check) {
        SequenceMatch x = new SequenceMatch();
        int leaf = x.leaf(1);
        int node = Build.repeat(x, 0, Build.repeat(x, 0, leaf, 12), 5);
        for (int trees = 67; trees <= 70; trees++) {
            check.isTrue("leaf as tree " + trees, () -> x.more(node, leaf));
        }
        check.throwsArgument("leaf as tree 71", () -> x.more(node, leaf));
    }

    static void promise4_treesCountAsOftenAsTheyStandThere(Check check) {
        SequenceMatch x = new SequenceMatch();
        int pair = Build.repeat(x, 0, x.leaf(1), 10);
        int node = Build.repeat(x, 0, pair, 6);
        check.throwsArgument("1 + 7 * 11 trees of three numbers", () -> x.more(node, pair));
        check.is("parts", 6, () -> x.parts(node));
    }

    static void promise4_holesCountAmongThe70(Check check) {
        SequenceMatch x = new SequenceMatch();
        int hole = x.hole(0, Build.MANY);
        int node = Build.repeat(x, 0, Build.repeat(x, 0, hole, 12), 5);
        int five = Build.repeat(x, 0, hole, 4);
        check.throwsArgument("71 trees", () -> x.more(node, five));
    }

    static void promise4_treeMinus1IsNoTree(Check check) {
        SequenceMatch x = new SequenceMatch();
        int node = x.node(0);
        check.throwsIndex("node -1", () -> x.more(-1, node));
        check.throwsIndex("part -1", () -> x.more(node, -1));
        check.throwsIndex("node of the lowest int", () -> x.more(Build.LOW, node));
        check.throwsIndex("part of the lowest int", () -> x.more(node, Build.LOW));
    }

    static void promise4_treeNotYetMadeIsNoTree(Check check) {
        SequenceMatch x = new SequenceMatch();
        int node = x.node(0);
        check.throwsIndex("node 1 of 1", () -> x.more(1, node));
        check.throwsIndex("part 1 of 1", () -> x.more(node, 1));
        check.throwsIndex("node of the highest int", () -> x.more(Build.HIGH, node));
        check.throwsIndex("part of the highest int", () -> x.more(node, Build.HIGH));
    }

    static void promise4_tree240IsNoTree(Check check) {
        SequenceMatch x = new SequenceMatch();
        int node = x.node(0);
        Build.fill(x);
        check.throwsIndex("node 240", () -> x.more(240, node));
        check.throwsIndex("part 240", () -> x.more(node, 240));
        check.isTrue("part 239", () -> x.more(node, 239));
    }

    static void promise4_noSuchTreeIsToldAheadOfNoNode(Check check) {
        SequenceMatch x = new SequenceMatch();
        int leaf = x.leaf(1);
        check.throwsIndex("more(leaf, 1)", () -> x.more(leaf, 1));
        check.throwsIndex("more(leaf, -1)", () -> x.more(leaf, -1));
    }

    static void promise4_noSuchTreeIsToldAheadOfFalse(Check check) {
        SequenceMatch x = new SequenceMatch();
        int node = Build.repeat(x, 0, x.leaf(1), 12);
        check.throwsIndex("part 99 for a full node", () -> x.more(node, 99));
    }

    static void promise4_fullNodeItselfThrowsAheadOfFalse(Check check) {
        SequenceMatch x = new SequenceMatch();
        int node = Build.repeat(x, 0, x.leaf(1), 12);
        check.throwsArgument("the node itself", () -> x.more(node, node));
    }

    static void promise4_fullPartOrRuleThrowsAheadOfFalse(Check check) {
        SequenceMatch x = new SequenceMatch();
        int leaf = x.leaf(1);
        int inner = Build.repeat(x, 0, leaf, 12);
        Build.node(x, 0, inner);
        check.throwsArgument("a full node that is a part", () -> x.more(inner, leaf));
        int rule = Build.repeat(x, 0, leaf, 12);
        x.rule(rule);
        check.throwsArgument("a full node that is a rule", () -> x.more(rule, leaf));
    }

    static void promise4_tooDeepPartThrowsAheadOfFalse(Check check) {
        SequenceMatch x = new SequenceMatch();
        int node = Build.repeat(x, 0, x.leaf(1), 12);
        int deep = Build.chain(x, x.leaf(1), 20);
        check.throwsArgument("a part 20 deep for a full node", () -> x.more(node, deep));
    }

    static void promise4_tooManyTreesThrowAheadOfFalse(Check check) {
        SequenceMatch x = new SequenceMatch();
        int leaf = x.leaf(1);
        // Itself, eleven times 6 trees, and one: 68.
        int node = Build.repeat(x, 0, Build.repeat(x, 0, leaf, 5), 11);
        x.more(node, leaf);
        int two = Build.repeat(x, 0, leaf, 1);
        int three = Build.repeat(x, 0, leaf, 2);
        check.is("parts", 12, () -> x.parts(node));
        check.isFalse("70 trees, part 13", () -> x.more(node, two));
        check.throwsArgument("71 trees, part 13", () -> x.more(node, three));
    }

    static void promise4_refusedCallChangesNothing(Check check) {
        SequenceMatch x = new SequenceMatch();
        int node = x.node(5);
        int leaf = x.leaf(2);
        x.more(node, leaf);
        x.rule(node);
        x.net(node);
        x.match(node, node, 400);
        String ahead = Build.state(x);
        check.throwsArgument("a rule", () -> x.more(node, x.part(node, 0)));
        check.throwsArgument("a leaf", () -> x.more(leaf, node));
        check.throwsIndex("no such part", () -> x.more(node, 99));
        check.same("the state", ahead, Build.state(x));
    }

    static void promise4_refusedHoleLeavesTheNodePlain(Check check) {
        SequenceMatch x = new SequenceMatch();
        int node = x.node(0);
        int hole = x.hole(0, Build.ONE);
        x.rule(node);
        check.throwsArgument("a hole for a rule", () -> x.more(node, hole));
        check.is("the rule is plain", 1, () -> x.net(node));
    }

    // Promise 5: hole.

    static void promise5_name0AndName7AreTheEnds(Check check) {
        SequenceMatch x = new SequenceMatch();
        check.is("hole(0, 0)", 0, () -> x.hole(0, 0));
        check.is("hole(7, 0)", 1, () -> x.hole(7, 0));
    }

    static void promise5_kind0AndKind3AreTheEnds(Check check) {
        SequenceMatch x = new SequenceMatch();
        check.is("hole(7, 0)", 0, () -> x.hole(7, 0));
        check.is("hole(7, 3)", 1, () -> x.hole(7, 3));
    }

    static void promise5_nameMinus1IsTooSmall(Check check) {
        SequenceMatch x = new SequenceMatch();
        check.throwsArgument("hole(-1, 0)", () -> x.hole(-1, 0));
        check.throwsArgument("the lowest int", () -> x.hole(Build.LOW, 0));
    }

    static void promise5_name8IsTooLarge(Check check) {
        SequenceMatch x = new SequenceMatch();
        check.throwsArgument("hole(8, 0)", () -> x.hole(8, 0));
        check.throwsArgument("the highest int", () -> x.hole(Build.HIGH, 0));
    }

    static void promise5_kindMinus1IsTooSmall(Check check) {
        SequenceMatch x = new SequenceMatch();
        check.throwsArgument("hole(0, -1)", () -> x.hole(0, -1));
        check.throwsArgument("the lowest int", () -> x.hole(0, Build.LOW));
    }

    static void promise5_kind4IsTooLarge(Check check) {
        SequenceMatch x = new SequenceMatch();
        check.throwsArgument("hole(0, 4)", () -> x.hole(0, 4));
        check.throwsArgument("the highest int", () -> x.hole(0, Build.HIGH));
    }

    static void promise5_refusedHoleMakesNoTree(Check check) {
        SequenceMatch x = new SequenceMatch();
        check.throwsArgument("hole(8, 4)", () -> x.hole(8, 4));
        check.is("count(0)", 0, () -> x.count(0));
        check.is("the next hole", 0, () -> x.hole(0, 0));
    }

    static void promise5_tree239IsTheLast(Check check) {
        SequenceMatch x = new SequenceMatch();
        for (int tree = 0; tree < 239; tree++) {
            x.hole(0, 0);
        }
        check.is("hole 240", 239, () -> x.hole(0, 0));
        check.throwsState("hole 241", () -> x.hole(0, 0));
        check.is("count(0)", 240, () -> x.count(0));
    }

    static void promise5_wrongNameOrKindIsToldAheadOfNoRoom(Check check) {
        SequenceMatch x = new SequenceMatch();
        Build.fill(x);
        check.throwsArgument("hole(8, 0)", () -> x.hole(8, 0));
        check.throwsArgument("hole(0, 4)", () -> x.hole(0, 4));
    }

    static void promise5_newHoleHasNoTests(Check check) {
        SequenceMatch x = new SequenceMatch();
        int leaf = x.leaf(0);
        int hole = x.hole(0, Build.LEAF);
        check.is("it takes any leaf", 1, () -> x.match(hole, leaf, 1));
        check.is("and has no parts", 0, () -> x.parts(hole));
    }

    // Promise 6: test.

    static void promise6_test3IsTheLast(Check check) {
        SequenceMatch x = new SequenceMatch();
        int hole = x.hole(0, Build.ONE);
        check.isTrue("test 1", () -> x.test(hole, 0, 1));
        check.isTrue("test 2", () -> x.test(hole, 0, 1));
        check.isTrue("test 3", () -> x.test(hole, 0, 1));
    }

    static void promise6_test4IsFalse(Check check) {
        SequenceMatch x = new SequenceMatch();
        int hole = withThreeTests(x);
        check.isFalse("test 4", () -> x.test(hole, 0, 1));
        check.isFalse("again", () -> x.test(hole, 4, 1));
    }

    /** A hole ONE that takes leaves of names 5, 6 and 7. */
    private static int withThreeTests(SequenceMatch x) {
        int hole = x.hole(0, Build.ONE);
        x.test(hole, 0, 4);
        x.test(hole, 1, 8);
        x.test(hole, 2, 1);
        return hole;
    }

    static void promise6_falseTestIsNotAsked(Check check) {
        SequenceMatch x = new SequenceMatch();
        int hole = withThreeTests(x);
        int five = x.leaf(5);
        int four = x.leaf(4);
        int eight = x.leaf(8);
        check.isFalse("test 4", () -> x.test(hole, 0, 99));
        check.is("5 passes the three", 1, () -> x.match(hole, five, 1));
        check.is("4 fails the first", 0, () -> x.match(hole, four, 1));
        check.is("8 fails the second", 0, () -> x.match(hole, eight, 1));
    }

    static void promise6_thirdTestIsAsked(Check check) {
        SequenceMatch x = new SequenceMatch();
        int hole = x.hole(0, Build.ONE);
        x.test(hole, 2, 1);
        x.test(hole, 2, 1);
        x.test(hole, 0, 5);
        int five = x.leaf(5);
        check.is("5 isn't above 5", 0, () -> x.match(hole, five, 1));
    }

    static void promise6_testsAreEachHolesOwn(Check check) {
        SequenceMatch x = new SequenceMatch();
        int full = withThreeTests(x);
        int other = x.hole(0, Build.ONE);
        int four = x.leaf(4);
        check.isFalse("one has three", () -> x.test(full, 0, 0));
        check.is("another of its name has none", 1, () -> x.match(other, four, 1));
        check.isTrue("and takes one", () -> x.test(other, 0, 0));
    }

    static void promise6_kind0AndKind4AreTheEnds(Check check) {
        SequenceMatch x = new SequenceMatch();
        int hole = x.hole(0, Build.ONE);
        check.isTrue("kind 0", () -> x.test(hole, 0, 0));
        check.isTrue("kind 4", () -> x.test(hole, 4, 0));
    }

    static void promise6_kindMinus1IsTooSmall(Check check) {
        SequenceMatch x = new SequenceMatch();
        int hole = x.hole(0, Build.ONE);
        check.throwsArgument("kind -1", () -> x.test(hole, -1, 0));
        check.throwsArgument("the lowest int", () -> x.test(hole, Build.LOW, 0));
    }

    static void promise6_kind5IsTooLarge(Check check) {
        SequenceMatch x = new SequenceMatch();
        int hole = x.hole(0, Build.ONE);
        check.throwsArgument("kind 5", () -> x.test(hole, 5, 0));
        check.throwsArgument("the highest int", () -> x.test(hole, Build.HIGH, 0));
    }

    static void promise6_leafIsNoHole(Check check) {
        SequenceMatch x = new SequenceMatch();
        int leaf = x.leaf(1);
        check.throwsArgument("test(leaf, ..)", () -> x.test(leaf, 0, 0));
    }

    static void promise6_nodeIsNoHole(Check check) {
        SequenceMatch x = new SequenceMatch();
        int node = Build.node(x, 0, x.hole(0, Build.ONE));
        check.throwsArgument("test(node, ..)", () -> x.test(node, 0, 0));
    }

    static void promise6_noSuchTree(Check check) {
        SequenceMatch x = new SequenceMatch();
        x.hole(0, Build.ONE);
        check.throwsIndex("tree 1 of 1", () -> x.test(1, 0, 0));
        check.throwsIndex("tree -1", () -> x.test(-1, 0, 0));
        check.throwsIndex("the lowest int", () -> x.test(Build.LOW, 0, 0));
        check.throwsIndex("the highest int", () -> x.test(Build.HIGH, 0, 0));
    }

    static void promise6_noSuchTreeIsToldAheadOfNoSuchKind(Check check) {
        SequenceMatch x = new SequenceMatch();
        check.throwsIndex("test(0, 5, 0)", () -> x.test(0, 5, 0));
    }

    static void promise6_noSuchKindIsToldAheadOfFalse(Check check) {
        SequenceMatch x = new SequenceMatch();
        int hole = withThreeTests(x);
        check.throwsArgument("kind 5", () -> x.test(hole, 5, 0));
        check.throwsArgument("kind -1", () -> x.test(hole, -1, 0));
    }

    static void promise6_refusedTestIsNotCounted(Check check) {
        SequenceMatch x = new SequenceMatch();
        int hole = x.hole(0, Build.ONE);
        for (int k = 0; k < 3; k++) {
            check.throwsArgument("kind 5", () -> x.test(hole, 5, 99));
        }
        int leaf = x.leaf(1);
        check.is("no test is asked", 1, () -> x.match(hole, leaf, 1));
        for (int k = 0; k < 3; k++) {
            check.isTrue("room for three still", () -> x.test(hole, 0, 0));
        }
    }

    static void promise6_holeThatIsAPartOrRuleTakesTests(Check check) {
        SequenceMatch x = new SequenceMatch();
        int hole = x.hole(0, Build.ONE);
        int pattern = Build.node(x, 0, hole);
        x.rule(hole);
        int tree = Build.leaves(x, 0, 5);
        check.isTrue("test", () -> x.test(hole, 0, 5));
        check.is("it is asked within the pattern", 0, () -> x.match(pattern, tree, 400));
    }

    // Promise 6: what the kinds of tests hold for; a hole MANY is put beside none, one, or two trees.

    private static int tested(SequenceMatch x, int kind, int v, int tree) {
        int hole = x.hole(0, Build.ONE);
        x.test(hole, kind, v);
        return x.match(hole, tree, 1);
    }

    private static int testedRow(SequenceMatch x, int kind, int v, int... row) {
        int hole = x.hole(0, Build.MANY);
        x.test(hole, kind, v);
        int pattern = Build.node(x, 0, hole);
        return x.match(pattern, Build.node(x, 0, row), 400);
    }

    static void promise6_kind0IsANameAboveV(Check check) {
        SequenceMatch x = new SequenceMatch();
        int five = x.leaf(5);
        check.is("5 above 4", 1, () -> tested(x, 0, 4, five));
        check.is("5 above 5", 0, () -> tested(x, 0, 5, five));
        check.is("5 above 6", 0, () -> tested(x, 0, 6, five));
    }

    static void promise6_kind0AtTheEndsOfInt(Check check) {
        SequenceMatch x = new SequenceMatch();
        int zero = x.leaf(0);
        int top = x.leaf(99);
        check.is("0 above the lowest int", 1, () -> tested(x, 0, Build.LOW, zero));
        check.is("99 above the highest int", 0, () -> tested(x, 0, Build.HIGH, top));
        check.is("0 above -1", 1, () -> tested(x, 0, -1, zero));
    }

    static void promise6_kind0IsOneLeaf(Check check) {
        SequenceMatch x = new SequenceMatch();
        int five = x.leaf(5);
        int node = x.node(5);
        check.is("a node", 0, () -> tested(x, 0, 4, node));
        check.is("none", 0, () -> testedRow(x, 0, 4));
        check.is("one", 1, () -> testedRow(x, 0, 4, five));
        check.is("two", 0, () -> testedRow(x, 0, 4, five, five));
    }

    static void promise6_kind1IsANameBelowV(Check check) {
        SequenceMatch x = new SequenceMatch();
        int five = x.leaf(5);
        check.is("5 below 6", 1, () -> tested(x, 1, 6, five));
        check.is("5 below 5", 0, () -> tested(x, 1, 5, five));
        check.is("5 below 4", 0, () -> tested(x, 1, 4, five));
    }

    static void promise6_kind1AtTheEndsOfInt(Check check) {
        SequenceMatch x = new SequenceMatch();
        int zero = x.leaf(0);
        int top = x.leaf(99);
        check.is("0 below the lowest int", 0, () -> tested(x, 1, Build.LOW, zero));
        check.is("99 below the highest int", 1, () -> tested(x, 1, Build.HIGH, top));
        check.is("99 below 100", 1, () -> tested(x, 1, 100, top));
    }

    static void promise6_kind1IsOneLeaf(Check check) {
        SequenceMatch x = new SequenceMatch();
        int five = x.leaf(5);
        int node = x.node(5);
        check.is("a node", 0, () -> tested(x, 1, 6, node));
        check.is("none", 0, () -> testedRow(x, 1, 6));
        check.is("one", 1, () -> testedRow(x, 1, 6, five));
        check.is("two", 0, () -> testedRow(x, 1, 6, five, five));
    }

    static void promise6_kind2IsVTreesAtLeast(Check check) {
        SequenceMatch x = new SequenceMatch();
        int leaf = x.leaf(5);
        int node = x.node(1);
        check.is("one of 2", 0, () -> testedRow(x, 2, 2, leaf));
        check.is("two of 2", 1, () -> testedRow(x, 2, 2, leaf, node));
        check.is("three of 2", 1, () -> testedRow(x, 2, 2, leaf, node, leaf));
    }

    static void promise6_kind2Of12Trees(Check check) {
        SequenceMatch x = new SequenceMatch();
        int leaf = x.leaf(5);
        int[] twelve = new int[12];
        Arrays.fill(twelve, leaf);
        check.is("12 at least", 1, () -> testedRow(x, 2, 12, twelve));
        check.is("13 at least", 0, () -> testedRow(x, 2, 13, twelve));
    }

    static void promise6_kind2OfNone(Check check) {
        SequenceMatch x = new SequenceMatch();
        check.is("0 at least", 1, () -> testedRow(x, 2, 0));
        check.is("1 at least", 0, () -> testedRow(x, 2, 1));
        check.is("-1 at least", 1, () -> testedRow(x, 2, -1));
    }

    static void promise6_kind2AtTheEndsOfInt(Check check) {
        SequenceMatch x = new SequenceMatch();
        int leaf = x.leaf(5);
        check.is("the lowest int at least", 1, () -> tested(x, 2, Build.LOW, leaf));
        check.is("the highest int at least", 0, () -> tested(x, 2, Build.HIGH, leaf));
    }

    static void promise6_kind3IsOneNodeWithHeadV(Check check) {
        SequenceMatch x = new SequenceMatch();
        int five = x.leaf(5);
        int node = x.node(5);
        check.is("head 5", 1, () -> tested(x, 3, 5, node));
        check.is("head 4", 0, () -> tested(x, 3, 4, node));
        check.is("head 6", 0, () -> tested(x, 3, 6, node));
        check.is("a leaf 5", 0, () -> tested(x, 3, 5, five));
        check.is("none", 0, () -> testedRow(x, 3, 5));
        check.is("one", 1, () -> testedRow(x, 3, 5, node));
        check.is("two", 0, () -> testedRow(x, 3, 5, node, node));
    }

    static void promise6_kind3WithAHeadThatIsNone(Check check) {
        SequenceMatch x = new SequenceMatch();
        int node = x.node(0);
        int nine = x.node(9);
        check.is("head -1", 0, () -> tested(x, 3, -1, node));
        check.is("head 10", 0, () -> tested(x, 3, 10, nine));
        check.is("head 0", 1, () -> tested(x, 3, 0, node));
        check.is("head 9", 1, () -> tested(x, 3, 9, nine));
    }

    static void promise6_kind4IsOneTreeThatIsNoLeaf(Check check) {
        SequenceMatch x = new SequenceMatch();
        int leaf = x.leaf(5);
        int node = x.node(5);
        check.is("a leaf", 0, () -> tested(x, 4, 0, leaf));
        check.is("a node", 1, () -> tested(x, 4, 0, node));
        check.is("none", 0, () -> testedRow(x, 4, 0));
        check.is("one", 1, () -> testedRow(x, 4, 0, node));
        check.is("two", 0, () -> testedRow(x, 4, 0, node, node));
    }

    static void promise6_kind4AsksNoV(Check check) {
        SequenceMatch x = new SequenceMatch();
        int node = x.node(5);
        check.is("the lowest int", 1, () -> tested(x, 4, Build.LOW, node));
        check.is("the highest int", 1, () -> tested(x, 4, Build.HIGH, node));
    }

    // Promise 15: order.

    private static void isAhead(Check check, SequenceMatch x, String what, int a, int b) {
        check.is(what, -1, () -> x.order(a, b));
        check.is(what + ", turned", 1, () -> x.order(b, a));
    }

    static void promise15_treeIsEqualToItself(Check check) {
        SequenceMatch x = new SequenceMatch();
        int leaf = x.leaf(1);
        int node = Build.leaves(x, 0, 1, 2);
        check.is("a leaf", 0, () -> x.order(leaf, leaf));
        check.is("a node", 0, () -> x.order(node, node));
    }

    static void promise15_leavesStandAheadOfNodes(Check check) {
        SequenceMatch x = new SequenceMatch();
        isAhead(check, x, "leaf 99 and a bare node 0", x.leaf(99), x.node(0));
    }

    static void promise15_leavesStandByName(Check check) {
        SequenceMatch x = new SequenceMatch();
        int zero = x.leaf(0);
        isAhead(check, x, "leaf 0 and leaf 1", zero, x.leaf(1));
        isAhead(check, x, "leaf 0 and leaf 99", zero, x.leaf(99));
        int again = x.leaf(0);
        check.is("leaf 0 and leaf 0", 0, () -> x.order(zero, again));
    }

    static void promise15_headGoesAheadOfHowManyParts(Check check) {
        SequenceMatch x = new SequenceMatch();
        isAhead(check, x, "head 0 with two, head 1 with none", Build.leaves(x, 0, 9, 9), x.node(1));
    }

    static void promise15_howManyPartsGoesAheadOfParts(Check check) {
        SequenceMatch x = new SequenceMatch();
        isAhead(check, x, "leaf 9, leaves 0 0", Build.leaves(x, 0, 9), Build.leaves(x, 0, 0, 0));
        isAhead(check, x, "none, leaf 0", x.node(0), Build.leaves(x, 0, 0));
    }

    static void promise15_firstPartsThatDifferTell(Check check) {
        SequenceMatch x = new SequenceMatch();
        isAhead(check, x, "1 9 and 2 0", Build.leaves(x, 0, 1, 9), Build.leaves(x, 0, 2, 0));
        isAhead(check, x, "1 1 and 1 2", Build.leaves(x, 0, 1, 1), Build.leaves(x, 0, 1, 2));
    }

    static void promise15_bareNodesOfOneHeadAreEqual(Check check) {
        SequenceMatch x = new SequenceMatch();
        int a = x.node(3);
        int b = x.node(3);
        check.is("node 3 and node 3", 0, () -> x.order(a, b));
    }

    static void promise15_partsInAnyOrderAreEqual(Check check) {
        SequenceMatch x = new SequenceMatch();
        int a = Build.leaves(x, 5, 1, 2, 3);
        int b = Build.leaves(x, 5, 3, 1, 2);
        check.is("head 5", 0, () -> x.order(a, b));
        isAhead(check, x, "head 4", Build.leaves(x, 4, 1, 2, 3), Build.leaves(x, 4, 3, 1, 2));
    }

    static void promise15_part12Differs(Check check) {
        SequenceMatch x = new SequenceMatch();
        int leaf = x.leaf(1);
        int a = Build.repeat(x, 0, leaf, 12);
        int b = Build.repeat(x, 0, leaf, 11);
        x.more(b, x.leaf(2));
        isAhead(check, x, "the last parts", a, b);
    }

    static void promise15_fullNodesAreEqual(Check check) {
        SequenceMatch x = new SequenceMatch();
        int leaf = x.leaf(1);
        int other = x.leaf(2);
        int a = Build.repeat(x, 0, leaf, 12);
        Build.repeat(x, 0, leaf, 1);
        int b = Build.repeat(x, 0, leaf, 12);
        Build.repeat(x, 0, other, 1);
        check.is("12 and 12 parts", 0, () -> x.order(a, b));
    }

    static void promise15_tree239IsTheLast(Check check) {
        SequenceMatch x = new SequenceMatch();
        Build.fill(x);
        check.is("239 and 238", 0, () -> x.order(239, 238));
        check.throwsIndex("240 and 0", () -> x.order(240, 0));
        check.throwsIndex("0 and 240", () -> x.order(0, 240));
    }

    static void promise15_partsDifferAtTheDeepest(Check check) {
        SequenceMatch x = new SequenceMatch();
        int a = Build.chain(x, x.leaf(1), 20);
        int b = Build.chain(x, x.leaf(2), 20);
        isAhead(check, x, "leaves 20 deep", a, b);
        int c = Build.chain(x, x.leaf(1), 20);
        check.is("the same 20 deep", 0, () -> x.order(a, c));
    }

    static void promise15_oneIsNotPlain(Check check) {
        SequenceMatch x = new SequenceMatch();
        int hole = x.hole(0, Build.ONE);
        int holed = Build.chain(x, hole, 20);
        int leaf = x.leaf(1);
        check.throwsArgument("the first is a hole", () -> x.order(hole, leaf));
        check.throwsArgument("the second is a hole", () -> x.order(leaf, hole));
        check.throwsArgument("the first has one deep within", () -> x.order(holed, leaf));
        check.throwsArgument("the second has one deep within", () -> x.order(leaf, holed));
        check.throwsArgument("a hole and itself", () -> x.order(hole, hole));
    }

    static void promise15_noSuchTree(Check check) {
        SequenceMatch x = new SequenceMatch();
        int leaf = x.leaf(1);
        check.throwsIndex("the first is -1", () -> x.order(-1, leaf));
        check.throwsIndex("the second is -1", () -> x.order(leaf, -1));
        check.throwsIndex("the first isn't made", () -> x.order(1, leaf));
        check.throwsIndex("the second isn't made", () -> x.order(leaf, 1));
        check.throwsIndex("the ends of int", () -> x.order(Build.LOW, Build.HIGH));
    }

    static void promise15_noSuchTreeIsToldAheadOfNotPlain(Check check) {
        SequenceMatch x = new SequenceMatch();
        int hole = x.hole(0, Build.ONE);
        check.throwsIndex("a hole, then no tree", () -> x.order(hole, 1));
        check.throwsIndex("no tree, then a hole", () -> x.order(1, hole));
    }

    // Promise 16: parts.

    static void promise16_leafHasNoParts(Check check) {
        SequenceMatch x = new SequenceMatch();
        int leaf = x.leaf(12);
        check.is("parts", 0, () -> x.parts(leaf));
    }

    static void promise16_holeHasNoParts(Check check) {
        SequenceMatch x = new SequenceMatch();
        int hole = x.hole(3, Build.MANY);
        check.is("parts", 0, () -> x.parts(hole));
    }

    static void promise16_nodeHas0To12Parts(Check check) {
        SequenceMatch x = new SequenceMatch();
        int leaf = x.leaf(1);
        int node = x.node(0);
        for (int due = 0; due <= 12; due++) {
            check.is("parts", due, () -> x.parts(node));
            x.more(node, leaf);
        }
        check.is("parts behind false", 12, () -> x.parts(node));
    }

    static void promise16_partsOfPartsAreNotCounted(Check check) {
        SequenceMatch x = new SequenceMatch();
        int node = Build.chain(x, x.leaf(1), 3);
        check.is("parts", 1, () -> x.parts(node));
    }

    static void promise16_noSuchTree(Check check) {
        SequenceMatch x = new SequenceMatch();
        x.leaf(1);
        check.throwsIndex("tree 1 of 1", () -> x.parts(1));
        check.throwsIndex("tree -1", () -> x.parts(-1));
        check.throwsIndex("the lowest int", () -> x.parts(Build.LOW));
        check.throwsIndex("the highest int", () -> x.parts(Build.HIGH));
    }

    static void promise16_tree239IsTheLast(Check check) {
        SequenceMatch x = new SequenceMatch();
        Build.fill(x);
        check.is("tree 239", 0, () -> x.parts(239));
        check.throwsIndex("tree 240", () -> x.parts(240));
    }

    // Promise 17: part.

    static void promise17_part0IsTheFirst(Check check) {
        SequenceMatch x = new SequenceMatch();
        int node = Build.leaves(x, 0, 1, 2);
        check.is("part 0", node + 1, () -> x.part(node, 0));
        check.is("part -1", -1, () -> x.part(node, -1));
        check.is("the lowest int", -1, () -> x.part(node, Build.LOW));
    }

    static void promise17_partBehindTheLastIsNone(Check check) {
        SequenceMatch x = new SequenceMatch();
        int node = Build.leaves(x, 0, 1, 2);
        Build.leaves(x, 0, 3, 4);
        check.is("part 1", node + 2, () -> x.part(node, 1));
        check.is("part 2", -1, () -> x.part(node, 2));
        check.is("part 12", -1, () -> x.part(node, 12));
        check.is("the highest int", -1, () -> x.part(node, Build.HIGH));
    }

    static void promise17_part11OfAFullNode(Check check) {
        SequenceMatch x = new SequenceMatch();
        int leaf = x.leaf(1);
        int last = x.leaf(2);
        int node = Build.repeat(x, 0, leaf, 11);
        x.more(node, last);
        int other = Build.leaves(x, 0, 3);
        check.is("part 11", last, () -> x.part(node, 11));
        check.is("part 12", -1, () -> x.part(node, 12));
        check.is("part 0 of the next node", other + 1, () -> x.part(other, 0));
    }

    static void promise17_treeWithoutPartsHasNone(Check check) {
        SequenceMatch x = new SequenceMatch();
        int leaf = x.leaf(1);
        int hole = x.hole(0, Build.ONE);
        int node = x.node(0);
        check.is("of a leaf", -1, () -> x.part(leaf, 0));
        check.is("of a hole", -1, () -> x.part(hole, 0));
        check.is("of a bare node", -1, () -> x.part(node, 0));
    }

    static void promise17_noSuchTree(Check check) {
        SequenceMatch x = new SequenceMatch();
        Build.leaves(x, 0, 1);
        check.throwsIndex("tree 2 of 2", () -> x.part(2, 0));
        check.throwsIndex("tree -1", () -> x.part(-1, 0));
        check.throwsIndex("the lowest int", () -> x.part(Build.LOW, 0));
        check.throwsIndex("the highest int", () -> x.part(Build.HIGH, 0));
        check.throwsIndex("no such part either", () -> x.part(2, -1));
    }
}
