/** Boundary cases of rules and of what is counted: promises 11 to 14 and 18. */
final class RuleBoundaries {
    private RuleBoundaries() {
    }

    // Promise 11: rule.

    static void promise11_firstRuleIs0(Check check) {
        SequenceMatch x = new SequenceMatch();
        int leaf = x.leaf(1);
        check.is("rule", 0, () -> x.rule(leaf));
        check.is("count(1)", 1, () -> x.count(1));
    }

    static void promise11_rule29IsTheLast(Check check) {
        SequenceMatch x = new SequenceMatch();
        int leaf = x.leaf(1);
        for (int rule = 0; rule < 29; rule++) {
            x.rule(leaf);
        }
        check.is("rule 30", 29, () -> x.rule(leaf));
        check.throwsState("rule 31", () -> x.rule(leaf));
        check.is("count(1)", 30, () -> x.count(1));
    }

    static void promise11_refusedRuleIsNone(Check check) {
        SequenceMatch x = new SequenceMatch();
        int leaf = x.leaf(1);
        for (int rule = 0; rule < 30; rule++) {
            x.rule(leaf);
        }
        int node = x.node(0);
        check.throwsState("rule 31", () -> x.rule(node));
        check.isTrue("the node takes parts still", () -> x.more(node, leaf));
        check.is("no rule may match it", 0, () -> x.net(node));
    }

    static void promise11_samePatternAgainIsAnotherRule(Check check) {
        SequenceMatch x = new SequenceMatch();
        int leaf = x.leaf(1);
        x.rule(leaf);
        check.is("again", 1, () -> x.rule(leaf));
        check.is("both may match", 2, () -> x.net(leaf));
    }

    static void promise11_anyTreeIsAPattern(Check check) {
        SequenceMatch x = new SequenceMatch();
        int leaf = x.leaf(1);
        int hole = x.hole(0, Build.MANY);
        int bare = x.node(0);
        int part = x.node(0);
        Build.node(x, 0, part);
        check.is("a leaf", 0, () -> x.rule(leaf));
        check.is("a hole", 1, () -> x.rule(hole));
        check.is("a bare node", 2, () -> x.rule(bare));
        check.is("a part of another one", 3, () -> x.rule(part));
    }

    static void promise11_noSuchTree(Check check) {
        SequenceMatch x = new SequenceMatch();
        x.leaf(1);
        check.throwsIndex("tree 1 of 1", () -> x.rule(1));
        check.throwsIndex("tree -1", () -> x.rule(-1));
        check.throwsIndex("the lowest int", () -> x.rule(Build.LOW));
        check.throwsIndex("the highest int", () -> x.rule(Build.HIGH));
        check.is("count(1)", 0, () -> x.count(1));
    }

    static void promise11_noSuchTreeIsToldAheadOfNoRoom(Check check) {
        SequenceMatch x = new SequenceMatch();
        int leaf = x.leaf(1);
        for (int rule = 0; rule < 30; rule++) {
            x.rule(leaf);
        }
        check.throwsIndex("tree 1 of 1", () -> x.rule(1));
        check.throwsIndex("tree -1", () -> x.rule(-1));
    }

    // Promise 12: net.

    private static void mayMatch(Check check, String what, String due, SequenceMatch x, int tree) {
        int many = due.isEmpty() ? 0 : due.split(" ").length;
        check.is(what + ": net", many, () -> x.net(tree));
        check.same(what + ": rules", due, Build.told(x));
    }

    static void promise12_noRulesAre0(Check check) {
        SequenceMatch x = new SequenceMatch();
        mayMatch(check, "a leaf", "", x, x.leaf(1));
    }

    static void promise12_all30MayMatch(Check check) {
        SequenceMatch x = new SequenceMatch();
        int hole = x.hole(0, Build.ONE);
        for (int rule = 0; rule < 30; rule++) {
            x.rule(hole);
        }
        int leaf = x.leaf(1);
        check.is("net", 30, () -> x.net(leaf));
        check.is("rules(29)", 29, () -> x.rules(29));
        check.is("rules(30)", -1, () -> x.rules(30));
    }

    static void promise12_holeLeafIfTheTreeIsALeaf(Check check) {
        SequenceMatch x = new SequenceMatch();
        x.rule(x.hole(0, Build.LEAF));
        mayMatch(check, "a leaf", "0", x, x.leaf(1));
        mayMatch(check, "a bare node", "", x, x.node(1));
    }

    static void promise12_otherHolesAlways(Check check) {
        SequenceMatch x = new SequenceMatch();
        x.rule(x.hole(0, Build.ONE));
        x.rule(x.hole(0, Build.SOME));
        x.rule(x.hole(0, Build.MANY));
        mayMatch(check, "a leaf", "0 1 2", x, x.leaf(1));
        mayMatch(check, "a bare node", "0 1 2", x, x.node(1));
    }

    static void promise12_leafIfItIsTheSame(Check check) {
        SequenceMatch x = new SequenceMatch();
        x.rule(x.leaf(4));
        x.rule(x.leaf(5));
        x.rule(x.leaf(6));
        mayMatch(check, "leaf 5", "1", x, x.leaf(5));
        mayMatch(check, "node 5", "", x, x.node(5));
    }

    static void promise12_nodeIfTheHeadIsTheSame(Check check) {
        SequenceMatch x = new SequenceMatch();
        x.rule(x.node(4));
        x.rule(x.node(5));
        x.rule(x.node(6));
        mayMatch(check, "node 5", "1", x, x.node(5));
        mayMatch(check, "leaf 5", "", x, x.leaf(5));
    }

    static void promise12_asManyPartsWithoutSeveral(Check check) {
        SequenceMatch x = new SequenceMatch();
        int one = x.hole(0, Build.ONE);
        x.rule(Build.node(x, 0, one, one));
        mayMatch(check, "one part", "", x, Build.leaves(x, 0, 1));
        mayMatch(check, "two parts", "0", x, Build.leaves(x, 0, 1, 1));
        mayMatch(check, "three parts", "", x, Build.leaves(x, 0, 1, 1, 1));
    }

    static void promise12_bareRuleForABareNodeAlone(Check check) {
        SequenceMatch x = new SequenceMatch();
        x.rule(x.node(0));
        x.rule(x.node(5));
        mayMatch(check, "a bare node 0", "0", x, x.node(0));
        mayMatch(check, "a node 0 of one", "", x, Build.leaves(x, 0, 1));
        mayMatch(check, "a bare node 5", "1", x, x.node(5));
        mayMatch(check, "a node 5 of one", "", x, Build.leaves(x, 5, 1));
    }

    static void promise12_manyIsNotAmongThePartsNeeded(Check check) {
        SequenceMatch x = new SequenceMatch();
        int one = x.hole(0, Build.ONE);
        int many = x.hole(1, Build.MANY);
        x.rule(Build.node(x, 0, one, many, many));
        mayMatch(check, "no part", "", x, x.node(0));
        mayMatch(check, "one part", "0", x, Build.leaves(x, 0, 1));
    }

    static void promise12_onlyManyForABareNode(Check check) {
        SequenceMatch x = new SequenceMatch();
        int many = x.hole(1, Build.MANY);
        x.rule(Build.node(x, 0, many));
        x.rule(Build.node(x, 5, many, many));
        mayMatch(check, "a bare node 0", "0", x, x.node(0));
        mayMatch(check, "a bare node 5", "1", x, x.node(5));
    }

    static void promise12_someIsAmongThePartsNeeded(Check check) {
        SequenceMatch x = new SequenceMatch();
        int one = x.hole(0, Build.ONE);
        int some = x.hole(1, Build.SOME);
        x.rule(Build.node(x, 0, one, some));
        mayMatch(check, "one part", "", x, Build.leaves(x, 0, 1));
        mayMatch(check, "two parts", "0", x, Build.leaves(x, 0, 1, 1));
    }

    static void promise12_morePartsWithSome(Check check) {
        SequenceMatch x = new SequenceMatch();
        x.rule(Build.node(x, 0, x.hole(0, Build.ONE), x.hole(1, Build.SOME)));
        mayMatch(check, "three parts", "0", x, Build.leaves(x, 0, 1, 1, 1));
        mayMatch(check, "twelve parts", "0", x, Build.repeat(x, 0, x.leaf(1), 12));
    }

    static void promise12_morePartsWithMany(Check check) {
        SequenceMatch x = new SequenceMatch();
        x.rule(Build.node(x, 0, x.hole(0, Build.ONE), x.hole(1, Build.MANY)));
        mayMatch(check, "three parts", "0", x, Build.leaves(x, 0, 1, 1, 1));
        mayMatch(check, "twelve parts", "0", x, Build.repeat(x, 0, x.leaf(1), 12));
    }

    static void promise12_severalMayStandAheadOfTheOthers(Check check) {
        SequenceMatch x = new SequenceMatch();
        x.rule(Build.node(x, 0, x.hole(1, Build.MANY), x.hole(0, Build.ONE)));
        x.rule(Build.node(x, 0, x.hole(1, Build.SOME), x.hole(0, Build.ONE)));
        mayMatch(check, "three parts", "0 1", x, Build.leaves(x, 0, 1, 1, 1));
    }

    static void promise12_severalDeeperWithinDoNotCount(Check check) {
        SequenceMatch x = new SequenceMatch();
        x.rule(Build.node(x, 0, x.hole(0, Build.ONE), Build.node(x, 0, x.hole(1, Build.MANY))));
        mayMatch(check, "three parts", "", x, Build.leaves(x, 0, 1, 1, 1));
    }

    static void promise12_manyPartsInAnyOrder(Check check) {
        SequenceMatch x = new SequenceMatch();
        int one = x.hole(0, Build.ONE);
        x.rule(Build.node(x, 5, one, one));
        x.rule(Build.node(x, 5, one, x.hole(1, Build.SOME)));
        x.rule(Build.node(x, 5, one, x.hole(1, Build.MANY)));
        mayMatch(check, "one part", "2", x, Build.leaves(x, 5, 1));
        mayMatch(check, "two parts", "0 1 2", x, Build.leaves(x, 5, 1, 1));
        mayMatch(check, "three parts", "1 2", x, Build.leaves(x, 5, 1, 1, 1));
    }

    static void promise12_firstPartIsALeafOfTheSameName(Check check) {
        SequenceMatch x = new SequenceMatch();
        x.rule(Build.leaves(x, 4, 5));
        mayMatch(check, "leaf 5", "0", x, Build.leaves(x, 4, 5));
        mayMatch(check, "leaf 4", "", x, Build.leaves(x, 4, 4));
        mayMatch(check, "leaf 6", "", x, Build.leaves(x, 4, 6));
        mayMatch(check, "node 5", "", x, Build.node(x, 4, x.node(5)));
    }

    static void promise12_firstPartIsANodeOfTheSameHead(Check check) {
        SequenceMatch x = new SequenceMatch();
        x.rule(Build.node(x, 4, x.node(5)));
        mayMatch(check, "node 5", "0", x, Build.node(x, 4, x.node(5)));
        mayMatch(check, "node 4", "", x, Build.node(x, 4, x.node(4)));
        mayMatch(check, "leaf 5", "", x, Build.leaves(x, 4, 5));
    }

    static void promise12_partsOfTheFirstPartAreNotAsked(Check check) {
        SequenceMatch x = new SequenceMatch();
        x.rule(Build.node(x, 4, Build.leaves(x, 5, 1, 2)));
        mayMatch(check, "a bare node 5", "0", x, Build.node(x, 4, x.node(5)));
    }

    static void promise12_firstPartThatIsAHoleIsNotAsked(Check check) {
        SequenceMatch x = new SequenceMatch();
        x.rule(Build.node(x, 4, x.hole(0, Build.ONE)));
        x.rule(Build.node(x, 4, x.hole(0, Build.LEAF)));
        x.rule(Build.node(x, 4, x.hole(0, Build.SOME)));
        x.rule(Build.node(x, 4, x.hole(0, Build.MANY)));
        mayMatch(check, "a leaf", "0 1 2 3", x, Build.leaves(x, 4, 5));
        mayMatch(check, "a node", "0 1 2 3", x, Build.node(x, 4, x.node(5)));
    }

    static void promise12_partsBehindTheFirstAreNotAsked(Check check) {
        SequenceMatch x = new SequenceMatch();
        x.rule(Build.leaves(x, 4, 5, 6));
        mayMatch(check, "5 7", "0", x, Build.leaves(x, 4, 5, 7));
    }

    static void promise12_firstPartIsAskedNotTheSecond(Check check) {
        SequenceMatch x = new SequenceMatch();
        int hole = x.hole(0, Build.ONE);
        x.rule(Build.node(x, 4, x.leaf(5), hole));
        x.rule(Build.node(x, 4, hole, x.leaf(5)));
        mayMatch(check, "5 5", "0 1", x, Build.leaves(x, 4, 5, 5));
        mayMatch(check, "5 6", "0 1", x, Build.leaves(x, 4, 5, 6));
        mayMatch(check, "6 6", "1", x, Build.leaves(x, 4, 6, 6));
    }

    static void promise12_firstPartInAnyOrderIsNotAsked(Check check) {
        SequenceMatch x = new SequenceMatch();
        x.rule(Build.leaves(x, 4, 5));
        x.rule(Build.leaves(x, 5, 5));
        mayMatch(check, "head 4", "", x, Build.leaves(x, 4, 7));
        mayMatch(check, "head 5", "1", x, Build.leaves(x, 5, 7));
    }

    static void promise12_testsAreNotAsked(Check check) {
        SequenceMatch x = new SequenceMatch();
        int hole = x.hole(0, Build.ONE);
        x.test(hole, 0, 99);
        x.rule(hole);
        x.rule(Build.node(x, 0, hole));
        mayMatch(check, "a leaf", "0", x, x.leaf(1));
        mayMatch(check, "a node", "0 1", x, Build.leaves(x, 0, 1));
    }

    static void promise12_namesAreNotAsked(Check check) {
        SequenceMatch x = new SequenceMatch();
        int hole = x.hole(0, Build.ONE);
        x.rule(Build.node(x, 0, hole, hole));
        mayMatch(check, "1 2", "0", x, Build.leaves(x, 0, 1, 2));
    }

    static void promise12_toldUntilTheNextTime(Check check) {
        SequenceMatch x = new SequenceMatch();
        int leaf = x.leaf(1);
        int node = x.node(0);
        int hole = x.hole(0, Build.ONE);
        x.rule(leaf);
        x.rule(hole);
        mayMatch(check, "the leaf", "0 1", x, leaf);
        x.rule(hole);
        x.first(node);
        x.match(leaf, node, 400);
        check.same("behind rule(), first() and match()", "0 1", Build.told(x));
        mayMatch(check, "the node", "1 2", x, node);
    }

    static void promise12_noneToldBehindATreeWithout(Check check) {
        SequenceMatch x = new SequenceMatch();
        int leaf = x.leaf(1);
        x.rule(leaf);
        mayMatch(check, "the leaf", "0", x, leaf);
        mayMatch(check, "a node", "", x, x.node(1));
    }

    static void promise12_treeIsNotPlain(Check check) {
        SequenceMatch x = new SequenceMatch();
        int hole = x.hole(0, Build.ONE);
        int deep = Build.chain(x, hole, 20);
        x.rule(hole);
        check.throwsArgument("a hole", () -> x.net(hole));
        check.throwsArgument("a hole deep within", () -> x.net(deep));
    }

    static void promise12_noSuchTree(Check check) {
        SequenceMatch x = new SequenceMatch();
        x.leaf(1);
        check.throwsIndex("tree 1 of 1", () -> x.net(1));
        check.throwsIndex("tree -1", () -> x.net(-1));
        check.throwsIndex("the lowest int", () -> x.net(Build.LOW));
        check.throwsIndex("the highest int", () -> x.net(Build.HIGH));
    }

    static void promise12_refusedNetLeavesWhatIsTold(Check check) {
        SequenceMatch x = new SequenceMatch();
        int leaf = x.leaf(1);
        int hole = x.hole(0, Build.ONE);
        x.rule(hole);
        x.rule(leaf);
        mayMatch(check, "the leaf", "0 1", x, leaf);
        check.throwsArgument("a hole", () -> x.net(hole));
        check.throwsIndex("no such tree", () -> x.net(99));
        check.same("told still", "0 1", Build.told(x));
    }

    // Promise 13: rules.

    static void promise13_noneAheadOfTheFirstNet(Check check) {
        SequenceMatch x = new SequenceMatch();
        x.rule(x.hole(0, Build.ONE));
        check.is("rules(0)", -1, () -> x.rules(0));
    }

    static void promise13_kMinus1IsNone(Check check) {
        SequenceMatch x = new SequenceMatch();
        int leaf = x.leaf(1);
        x.rule(leaf);
        x.net(leaf);
        check.is("rules(0)", 0, () -> x.rules(0));
        check.is("rules(-1)", -1, () -> x.rules(-1));
        check.is("the lowest int", -1, () -> x.rules(Build.LOW));
    }

    static void promise13_kBehindTheLastIsNone(Check check) {
        SequenceMatch x = new SequenceMatch();
        int leaf = x.leaf(1);
        x.rule(leaf);
        x.rule(x.node(0));
        x.net(leaf);
        check.is("rules(1)", -1, () -> x.rules(1));
        check.is("rules(30)", -1, () -> x.rules(30));
        check.is("the highest int", -1, () -> x.rules(Build.HIGH));
    }

    static void promise13_theyStandByNumbers(Check check) {
        SequenceMatch x = new SequenceMatch();
        int leaf = x.leaf(1);
        int hole = x.hole(0, Build.ONE);
        int other = x.leaf(2);
        x.rule(other);
        x.rule(hole);
        x.rule(other);
        x.rule(leaf);
        x.net(leaf);
        check.is("rules(0)", 1, () -> x.rules(0));
        check.is("rules(1)", 3, () -> x.rules(1));
        check.is("rules(2)", -1, () -> x.rules(2));
    }

    static void promise13_fewerThanLastTime(Check check) {
        SequenceMatch x = new SequenceMatch();
        int leaf = x.leaf(1);
        int node = x.node(1);
        int hole = x.hole(0, Build.ONE);
        x.rule(leaf);
        x.rule(hole);
        x.net(leaf);
        x.net(node);
        check.is("rules(0)", 1, () -> x.rules(0));
        check.is("rules(1)", -1, () -> x.rules(1));
    }

    // Promise 14: first.

    static void promise14_noRulesAreNone(Check check) {
        SequenceMatch x = new SequenceMatch();
        int leaf = x.leaf(1);
        x.match(leaf, leaf, 400);
        check.is("first", -1, () -> x.first(leaf));
        check.is("none kept", 0, () -> x.count(2));
    }

    static void promise14_noRuleMayMatch(Check check) {
        SequenceMatch x = new SequenceMatch();
        int leaf = x.leaf(1);
        x.rule(x.leaf(2));
        x.match(leaf, leaf, 400);
        check.is("first", -1, () -> x.first(leaf));
        check.is("none kept", 0, () -> x.count(2));
    }

    static void promise14_ruleThatMayMatchHasNone(Check check) {
        SequenceMatch x = new SequenceMatch();
        int tree = Build.leaves(x, 0, 1, 2);
        x.rule(Build.leaves(x, 0, 1, 3));
        x.match(tree, tree, 400);
        check.is("first", -1, () -> x.first(tree));
        check.is("none kept", 0, () -> x.count(2));
        check.is("tries", 3, x::tried);
    }

    static void promise14_firstOfTwoThatHaveAMatch(Check check) {
        SequenceMatch x = new SequenceMatch();
        int leaf = x.leaf(1);
        x.rule(x.leaf(2));
        x.rule(x.hole(3, Build.ONE));
        x.rule(leaf);
        check.is("first", 1, () -> x.first(leaf));
        check.is("its match is kept", leaf, () -> x.bound(0, 3, 0));
    }

    static void promise14_rule29IsAsked(Check check) {
        SequenceMatch x = new SequenceMatch();
        int other = x.leaf(2);
        int leaf = x.leaf(1);
        for (int rule = 0; rule < 29; rule++) {
            x.rule(other);
        }
        x.rule(leaf);
        check.is("first", 29, () -> x.first(leaf));
    }

    static void promise14_first20AreKept(Check check) {
        SequenceMatch x = new SequenceMatch();
        int many = Build.node(x, 0, x.hole(0, Build.MANY), x.hole(1, Build.MANY), x.hole(2, Build.MANY));
        int tree = Build.leaves(x, 0, 1, 2, 3, 4, 5);
        x.rule(many);
        check.is("first, with 21 matches", 0, () -> x.first(tree));
        check.is("kept", 20, () -> x.count(2));
        check.is("the last of them", 4, () -> x.many(19, 0));
    }

    static void promise14_keptMatchesAreOfThatRuleAlone(Check check) {
        SequenceMatch x = new SequenceMatch();
        int pair = Build.node(x, 0, x.hole(0, Build.ONE), x.hole(0, Build.ONE));
        int tree = Build.leaves(x, 0, 1, 2);
        x.rule(pair);
        x.rule(x.hole(1, Build.ONE));
        check.is("first", 1, () -> x.first(tree));
        check.is("kept", 1, () -> x.count(2));
        check.is("the name of the rule ahead", -1, () -> x.many(0, 0));
        check.is("its own name", 1, () -> x.many(0, 1));
    }

    static void promise14_firstLeavesWhatIsTold(Check check) {
        SequenceMatch x = new SequenceMatch();
        int leaf = x.leaf(1);
        x.rule(leaf);
        check.is("first", 0, () -> x.first(leaf));
        check.is("rules(0)", -1, () -> x.rules(0));
    }

    /** A rule that a node of leaves 1, 2, 3 in any order has no match with, by 28 tries. */
    private static int vainOf28(SequenceMatch x) {
        return Build.node(x, 5, x.hole(0, Build.ONE), x.hole(1, Build.MANY), x.leaf(50));
    }

    /** A rule that no node but those of head 0 has a match with, by one try. */
    private static int vainOf1(SequenceMatch x) {
        int hole = x.hole(0, Build.ONE);
        x.test(hole, 3, 0);
        return hole;
    }

    private static void makeRules(SequenceMatch x, int pattern, int times) {
        for (int k = 0; k < times; k++) {
            x.rule(pattern);
        }
    }

    static void promise14_lastOf400TriesFindsAMatch(Check check) {
        SequenceMatch x = new SequenceMatch();
        int tree = Build.leaves(x, 5, 1, 2, 3);
        makeRules(x, vainOf28(x), 14);
        makeRules(x, vainOf1(x), 7);
        x.rule(x.hole(2, Build.ONE));
        check.is("first: 14 * 28 + 7 + 1 tries", 21, () -> x.first(tree));
        check.is("kept", 1, () -> x.count(2));
        check.is("tries", 1, x::tried);
    }

    static void promise14_noTriesAreLeftBehind400(Check check) {
        SequenceMatch x = new SequenceMatch();
        int tree = Build.leaves(x, 5, 1, 2, 3);
        makeRules(x, vainOf28(x), 14);
        makeRules(x, vainOf1(x), 8);
        check.is("first: 14 * 28 + 8 tries", -1, () -> x.first(tree));
        check.is("tries of the last rule", 1, x::tried);
        x.rule(x.hole(2, Build.ONE));
        check.is("first: one rule more", -1, () -> x.first(tree));
        check.is("it is asked with none", 0, x::tried);
        check.is("none kept", 0, () -> x.count(2));
    }

    static void promise14_spentRuleMadeThoseLeft(Check check) {
        SequenceMatch x = new SequenceMatch();
        int tree = Build.leaves(x, 5, 1, 2, 3);
        makeRules(x, vainOf28(x), 15);
        check.is("first: 14 * 28 and 8 tries", -1, () -> x.first(tree));
        check.is("tries of the last rule", 8, x::tried);
    }

    static void promise14_spentRuleHasWhatItFoundByThen(Check check) {
        SequenceMatch x = new SequenceMatch();
        int tree = Build.leaves(x, 5, 1, 2, 3);
        makeRules(x, vainOf28(x), 14);
        // Root, one tree, then two others one by one and both: by 5 of 8 tries a match; the next one is at the ninth.
        x.rule(Build.node(x, 5, x.hole(0, Build.ONE), x.hole(1, Build.SOME)));
        check.is("first", 14, () -> x.first(tree));
        check.is("kept", 1, () -> x.count(2));
        check.is("tries: those left", 8, x::tried);
    }

    static void promise14_spentRuleAheadOfItsFirstMatch(Check check) {
        SequenceMatch x = new SequenceMatch();
        int tree = Build.leaves(x, 5, 1, 2, 3);
        makeRules(x, vainOf28(x), 14);
        // Root, none, three of one, three of two: 8 tries; the match is at the ninth.
        x.rule(Build.node(x, 5, x.hole(0, Build.MANY)));
        check.is("first", -1, () -> x.first(tree));
        check.is("none kept", 0, () -> x.count(2));
        check.is("tries: those left", 8, x::tried);
    }

    static void promise14_rulesBehindASpentOneHaveNone(Check check) {
        SequenceMatch x = new SequenceMatch();
        int tree = Build.leaves(x, 5, 1, 2, 3);
        makeRules(x, vainOf28(x), 15);
        x.rule(x.hole(2, Build.ONE));
        x.rule(tree);
        check.is("first", -1, () -> x.first(tree));
        check.is("none kept", 0, () -> x.count(2));
        check.is("tries", 0, x::tried);
    }

    static void promise14_ruleBehindASpentOneThatMayNotMatch(Check check) {
        SequenceMatch x = new SequenceMatch();
        int tree = Build.leaves(x, 5, 1, 2, 3);
        makeRules(x, vainOf28(x), 15);
        x.rule(x.leaf(2));
        check.is("first", -1, () -> x.first(tree));
        check.is("it isn't asked: tries of the spent one", 8, x::tried);
    }

    static void promise14_rulesThatMayNotMatchMakeNoTries(Check check) {
        SequenceMatch x = new SequenceMatch();
        int tree = Build.leaves(x, 5, 1, 2, 3);
        makeRules(x, x.leaf(9), 8);
        makeRules(x, vainOf28(x), 14);
        makeRules(x, vainOf1(x), 7);
        x.rule(x.hole(2, Build.ONE));
        check.is("first: the last try", 29, () -> x.first(tree));
    }

    static void promise14_eachFirstHas400TriesAnew(Check check) {
        SequenceMatch x = new SequenceMatch();
        int tree = Build.leaves(x, 5, 1, 2, 3);
        int leaf = x.leaf(1);
        makeRules(x, vainOf28(x), 15);
        x.rule(x.hole(2, Build.ONE));
        check.is("spent", -1, () -> x.first(tree));
        check.is("another tree", 15, () -> x.first(leaf));
        check.is("tries", 1, x::tried);
    }

    static void promise14_treeIsNotPlain(Check check) {
        SequenceMatch x = new SequenceMatch();
        int hole = x.hole(0, Build.ONE);
        int deep = Build.chain(x, hole, 20);
        x.rule(hole);
        check.throwsArgument("a hole", () -> x.first(hole));
        check.throwsArgument("a hole deep within", () -> x.first(deep));
    }

    static void promise14_noSuchTree(Check check) {
        SequenceMatch x = new SequenceMatch();
        x.leaf(1);
        check.throwsIndex("tree 1 of 1", () -> x.first(1));
        check.throwsIndex("tree -1", () -> x.first(-1));
        check.throwsIndex("the lowest int", () -> x.first(Build.LOW));
        check.throwsIndex("the highest int", () -> x.first(Build.HIGH));
    }

    static void promise14_refusedFirstChangesNothing(Check check) {
        SequenceMatch x = new SequenceMatch();
        int hole = x.hole(0, Build.ONE);
        int leaf = x.leaf(1);
        x.rule(hole);
        x.net(leaf);
        x.first(leaf);
        String ahead = Build.state(x);
        check.throwsArgument("a hole", () -> x.first(hole));
        check.throwsIndex("no such tree", () -> x.first(99));
        check.same("the state", ahead, Build.state(x));
    }

    // Promise 18: count.

    static void promise18_what0IsTrees(Check check) {
        SequenceMatch x = new SequenceMatch();
        check.is("none", 0, () -> x.count(0));
        x.leaf(1);
        x.node(1);
        x.hole(1, Build.ONE);
        check.is("three", 3, () -> x.count(0));
        Build.fill(x);
        check.is("240", 240, () -> x.count(0));
    }

    static void promise18_what1IsRules(Check check) {
        SequenceMatch x = new SequenceMatch();
        int leaf = x.leaf(1);
        check.is("none", 0, () -> x.count(1));
        makeRules(x, leaf, 30);
        check.is("30", 30, () -> x.count(1));
    }

    static void promise18_what2IsMatchesKept(Check check) {
        SequenceMatch x = new SequenceMatch();
        int many = Build.node(x, 0, x.hole(0, Build.MANY), x.hole(1, Build.MANY), x.hole(2, Build.MANY));
        int tree = Build.leaves(x, 0, 1, 2, 3, 4, 5);
        check.is("none", 0, () -> x.count(2));
        x.match(many, tree, 400);
        check.is("20 of 21", 20, () -> x.count(2));
    }

    static void promise18_anotherWhatIsMinus1(Check check) {
        SequenceMatch x = new SequenceMatch();
        x.leaf(1);
        check.is("count(-1)", -1, () -> x.count(-1));
        check.is("count(3)", -1, () -> x.count(3));
        check.is("the lowest int", -1, () -> x.count(Build.LOW));
        check.is("the highest int", -1, () -> x.count(Build.HIGH));
    }
}
