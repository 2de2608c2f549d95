/** Boundary cases of tries and of matches that are kept: promises 7 to 10. */
final class TriesBoundaries {
    private TriesBoundaries() {
    }

    /** A row of holes MANY, names 0, 1 .. */
    private static int holes(SequenceMatch x, int head, int many) {
        int pattern = x.node(head);
        for (int name = 0; name < many; name++) {
            x.more(pattern, x.hole(name, Build.MANY));
        }
        return pattern;
    }

    // Promise 7: how many tries may be told.

    static void promise7_0TriesMayBeTold(Check check) {
        SequenceMatch x = new SequenceMatch();
        int leaf = x.leaf(1);
        check.is("0 tries are always too few", -1, () -> x.match(leaf, leaf, 0));
        check.is("tries", 0, x::tried);
        check.is("none kept", 0, () -> x.count(2));
    }

    static void promise7_400TriesMayBeTold(Check check) {
        SequenceMatch x = new SequenceMatch();
        int leaf = x.leaf(1);
        check.is("400 tries", 1, () -> x.match(leaf, leaf, 400));
    }

    static void promise7_minus1TriesAreTooFew(Check check) {
        SequenceMatch x = new SequenceMatch();
        int leaf = x.leaf(1);
        check.throwsArgument("-1 tries", () -> x.match(leaf, leaf, -1));
        check.throwsArgument("the lowest int", () -> x.match(leaf, leaf, Build.LOW));
    }

    static void promise7_401TriesAreTooMany(Check check) {
        SequenceMatch x = new SequenceMatch();
        int leaf = x.leaf(1);
        check.throwsArgument("401 tries", () -> x.match(leaf, leaf, 401));
        check.throwsArgument("the highest int", () -> x.match(leaf, leaf, Build.HIGH));
    }

    // Promise 7: spent.

    static void promise7_justEnoughTriesAreNotSpent(Check check) {
        SequenceMatch x = new SequenceMatch();
        int pattern = holes(x, 0, 4);
        int tree = Build.leaves(x, 0, 1, 2, 3);
        // Rows of 1, 2, 3 and 4 holes beside 3 trees at most: 4, 10, 20 and 35 ways, and the root.
        check.is("70 tries", 20, () -> x.match(pattern, tree, 70));
        check.is("made", 70, x::tried);
    }

    static void promise7_oneTryTooFewIsSpent(Check check) {
        SequenceMatch x = new SequenceMatch();
        int pattern = holes(x, 0, 4);
        int tree = Build.leaves(x, 0, 1, 2, 3);
        check.is("69 tries", -1, () -> x.match(pattern, tree, 69));
        check.is("made", 69, x::tried);
        check.is("all but the last are kept", 19, () -> x.count(2));
    }

    static void promise7_spentWithAllMatchesFound(Check check) {
        SequenceMatch x = new SequenceMatch();
        int pattern = Build.node(x, 0, x.hole(0, Build.MANY), x.leaf(9), x.hole(1, Build.MANY));
        int tree = Build.leaves(x, 0, 9);
        // Root, none, leaf, none: a match. Then one tree beside the first hole is the last try.
        check.is("5 tries", 1, () -> x.match(pattern, tree, 5));
        check.is("4 tries", -1, () -> x.match(pattern, tree, 4));
        check.is("it is kept", 1, () -> x.count(2));
    }

    static void promise7_spentAheadOfTheFirstMatch(Check check) {
        SequenceMatch x = new SequenceMatch();
        int pattern = holes(x, 5, 2);
        int tree = Build.leaves(x, 5, 1, 2, 3, 4, 5);
        // Root, none, then 32 choices for the second hole: the last of them is the first match.
        check.is("33 tries", -1, () -> x.match(pattern, tree, 33));
        check.is("none kept", 0, () -> x.count(2));
        check.is("34 tries", -1, () -> x.match(pattern, tree, 34));
        check.is("one kept", 1, () -> x.count(2));
    }

    static void promise7_noMatchIs0NotSpent(Check check) {
        SequenceMatch x = new SequenceMatch();
        int one = x.leaf(1);
        int two = x.leaf(2);
        check.is("1 try", 0, () -> x.match(one, two, 1));
        check.is("none kept", 0, () -> x.count(2));
    }

    static void promise7_patternThatFailsAtOnceIsSpentBy0(Check check) {
        SequenceMatch x = new SequenceMatch();
        int one = x.leaf(1);
        int two = x.leaf(2);
        check.is("0 tries", -1, () -> x.match(one, two, 0));
    }

    static void promise7_400TriesAreSpentByTwelveInAnyOrder(Check check) {
        SequenceMatch x = new SequenceMatch();
        int pattern = holes(x, 5, 2);
        int tree = Build.repeat(x, 5, x.leaf(1), 12);
        check.is("spent", -1, () -> x.match(pattern, tree, 400));
        check.is("made", 400, x::tried);
    }

    static void promise7_try401IsTheFirstTooMany(Check check) {
        SequenceMatch x = new SequenceMatch();
        int tree = Build.repeat(x, 5, Build.repeat(x, 1, x.leaf(1), 7), 8);
        int inner = x.node(1);
        for (int name = 0; name < 8; name++) {
            x.more(inner, x.hole(name, Build.ONE));
        }
        int pattern = Build.node(x, 5, x.hole(7, Build.ONE), inner);
        // For each of 8 trees one try and, for each of the 7 others, one and 7: 57. The eighth hole has none left.
        // Every try goes on to a next part, so that by 1 + 7 * 57 tries nearly all ways have been gone back, too.
        check.is("spent", -1, () -> x.match(pattern, tree, 400));
        check.is("made", 400, x::tried);
        check.is("none kept", 0, () -> x.count(2));
    }

    static void promise7_exactly400TriesAreNotSpent(Check check) {
        SequenceMatch x = new SequenceMatch();
        int leaf = x.leaf(1);
        int hole = x.hole(0, Build.ONE);
        int tree = Build.repeat(x, 5, Build.node(x, 1, leaf, leaf, Build.repeat(x, 5, leaf, 3)), 5);
        int inner = Build.node(x, 1, hole, hole, Build.repeat(x, 5, hole, 4));
        int pattern = Build.node(x, 5, x.hole(1, Build.ONE), inner);
        // The inner row: 2, then 1 + 3 + 6 + 6; with the node 19, for each of 4 others, for each of 5; and the root.
        check.is("386 tries", 0, () -> x.match(pattern, tree, 400));
        check.is("made", 1 + 5 * (1 + 4 * 19), x::tried);
        int needs400 = Build.chain(x, pattern, 14);
        int deepTree = Build.chain(x, tree, 14);
        check.is("400 tries", 0, () -> x.match(needs400, deepTree, 400));
        check.is("made of 400", 400, x::tried);
        check.is("399 tries", -1, () -> x.match(needs400, deepTree, 399));
        int needs401 = Build.chain(x, needs400, 1);
        int deeperTree = Build.chain(x, deepTree, 1);
        check.is("401 are needed", -1, () -> x.match(needs401, deeperTree, 400));
        check.is("made of 401", 400, x::tried);
    }

    // Promise 7: the first 20 are kept.

    static void promise7_20MatchesAreAllKept(Check check) {
        SequenceMatch x = new SequenceMatch();
        int pattern = holes(x, 0, 4);
        int tree = Build.leaves(x, 0, 1, 2, 3);
        check.is("matches", 20, () -> x.match(pattern, tree, 400));
        check.is("kept", 20, () -> x.count(2));
        check.is("the last one: all beside the first hole", 3, () -> x.many(19, 0));
    }

    static void promise7_match21IsCountedNotKept(Check check) {
        SequenceMatch x = new SequenceMatch();
        int pattern = holes(x, 0, 3);
        int tree = Build.leaves(x, 0, 1, 2, 3, 4, 5);
        check.is("matches", 21, () -> x.match(pattern, tree, 400));
        check.is("kept", 20, () -> x.count(2));
        // The last of all has five trees beside the first hole; the two ahead of it have four.
        check.is("match 19", 4, () -> x.many(19, 0));
        check.throwsIndex("match 20", () -> x.many(20, 0));
    }

    static void promise7_first20AreKeptAlsoWhenSpent(Check check) {
        SequenceMatch x = new SequenceMatch();
        int pattern = holes(x, 5, 2);
        int tree = Build.leaves(x, 5, 1, 2, 3, 4, 5);
        check.is("all 32 by 276 tries", 32, () -> x.match(pattern, tree, 276));
        check.is("275 tries", -1, () -> x.match(pattern, tree, 275));
        check.is("kept", 20, () -> x.count(2));
        check.is("the first", 0, () -> x.many(0, 0));
        // 1 of none, 5 of one, 10 of two: the matches from 16 on have three.
        check.is("match 15", 2, () -> x.many(15, 0));
        check.is("match 16", 3, () -> x.many(16, 0));
        check.is("match 19", 3, () -> x.many(19, 0));
    }

    static void promise7_nextMatchKeepsItsOwnAlone(Check check) {
        SequenceMatch x = new SequenceMatch();
        int pattern = holes(x, 0, 4);
        int tree = Build.leaves(x, 0, 1, 2, 3);
        int leaf = x.leaf(1);
        x.match(pattern, tree, 400);
        check.is("no match", 0, () -> x.match(leaf, tree, 400));
        check.is("kept", 0, () -> x.count(2));
        x.match(pattern, tree, 400);
        check.is("one match", 1, () -> x.match(leaf, leaf, 400));
        check.is("kept then", 1, () -> x.count(2));
        check.is("a name of the one ahead", -1, () -> x.many(0, 0));
    }

    // Promise 8: tried.

    static void promise8_0WithoutAny(Check check) {
        SequenceMatch x = new SequenceMatch();
        check.is("of a new object", 0, x::tried);
        x.rule(x.leaf(1));
        check.is("with trees and rules", 0, x::tried);
    }

    static void promise8_patternItselfIsATry(Check check) {
        SequenceMatch x = new SequenceMatch();
        int one = x.leaf(1);
        int two = x.leaf(2);
        x.match(one, one, 400);
        check.is("that fits", 1, x::tried);
        x.match(one, two, 400);
        check.is("that doesn't", 1, x::tried);
    }

    static void promise8_manyBesideNoneIsATry(Check check) {
        SequenceMatch x = new SequenceMatch();
        int pattern = holes(x, 0, 3);
        int bare = x.node(0);
        x.match(pattern, bare, 400);
        check.is("root and three holes beside none", 4, x::tried);
    }

    static void promise8_someBesideNoneIsNoTry(Check check) {
        SequenceMatch x = new SequenceMatch();
        int pattern = Build.node(x, 0, x.hole(0, Build.SOME));
        int bare = x.node(0);
        x.match(pattern, bare, 400);
        check.is("the root", 1, x::tried);
    }

    static void promise8_partWithNoTreeLeftIsNoTry(Check check) {
        SequenceMatch x = new SequenceMatch();
        int pattern = Build.leaves(x, 0, 1, 1);
        int tree = Build.leaves(x, 0, 1);
        x.match(pattern, tree, 400);
        check.is("the root and a leaf", 2, x::tried);
    }

    static void promise8_severalTreesAreOneTry(Check check) {
        SequenceMatch x = new SequenceMatch();
        int pattern = Build.node(x, 0, x.hole(0, Build.SOME));
        int tree = Build.leaves(x, 0, 1, 2, 3);
        x.match(pattern, tree, 400);
        check.is("the root, one, two, three", 4, x::tried);
    }

    static void promise8_failedTestIsATry(Check check) {
        SequenceMatch x = new SequenceMatch();
        int hole = x.hole(0, Build.MANY);
        x.test(hole, 2, 3);
        int pattern = Build.node(x, 0, hole);
        int tree = Build.leaves(x, 0, 1, 2, 3);
        x.match(pattern, tree, 400);
        check.is("the root, none, one, two, three", 5, x::tried);
    }

    static void promise8_spentMatchMadeThoseTold(Check check) {
        SequenceMatch x = new SequenceMatch();
        int tree = Build.leaves(x, 0, 1, 2, 3);
        for (int told = 0; told < 4; told++) {
            int tries = told;
            check.is("spent", -1, () -> x.match(tree, tree, tries));
            check.is("made", tries, x::tried);
        }
        check.is("enough", 1, () -> x.match(tree, tree, 4));
        check.is("made then", 4, x::tried);
    }

    static void promise8_latestOfMatchAndFirst(Check check) {
        SequenceMatch x = new SequenceMatch();
        int tree = Build.leaves(x, 0, 1, 2, 3);
        int leaf = x.leaf(1);
        x.rule(leaf);
        x.match(tree, tree, 400);
        check.is("of match()", 4, x::tried);
        x.first(leaf);
        check.is("of first()", 1, x::tried);
        x.match(tree, tree, 400);
        check.is("of match() again", 4, x::tried);
    }

    static void promise8_firstThatAskedNoRuleMade0(Check check) {
        SequenceMatch x = new SequenceMatch();
        int leaf = x.leaf(1);
        x.match(leaf, leaf, 400);
        x.first(leaf);
        check.is("there is no rule", 0, x::tried);
        x.rule(x.node(0));
        x.match(leaf, leaf, 400);
        x.first(leaf);
        check.is("no rule may match", 0, x::tried);
    }

    static void promise8_firstTellsTheLastRuleAlone(Check check) {
        SequenceMatch x = new SequenceMatch();
        int tree = Build.leaves(x, 0, 1, 2, 3);
        x.rule(Build.leaves(x, 0, 1, 2, 4));
        x.rule(x.hole(0, Build.ONE));
        check.is("first", 1, () -> x.first(tree));
        check.is("of the hole, not 4 + 1", 1, x::tried);
    }

    static void promise8_otherCallsLeaveIt(Check check) {
        SequenceMatch x = new SequenceMatch();
        int tree = Build.leaves(x, 0, 1, 2, 3);
        x.rule(x.hole(0, Build.ONE));
        x.match(tree, tree, 400);
        x.net(tree);
        x.order(tree, tree);
        x.leaf(1);
        check.is("made", 4, x::tried);
        check.throwsArgument("a refused match", () -> x.match(tree, tree, 401));
        check.throwsIndex("a refused first", () -> x.first(99));
        check.is("made still", 4, x::tried);
    }

    // Promise 9: bound.

    /** One match: name 0 has a row of none, name 7 the three leaves behind `tree`, the others nothing. */
    private static int matchOfNoneAndThree(SequenceMatch x) {
        int tree = Build.leaves(x, 0, 1, 2, 3);
        int first = x.hole(0, Build.MANY);
        int last = x.hole(7, Build.MANY);
        x.test(last, 2, 3);
        x.match(Build.node(x, 0, first, last), tree, 400);
        return tree;
    }

    static void promise9_k0IsTheFirstTree(Check check) {
        SequenceMatch x = new SequenceMatch();
        int tree = matchOfNoneAndThree(x);
        check.is("tree 0", tree + 1, () -> x.bound(0, 7, 0));
        check.is("tree -1", -1, () -> x.bound(0, 7, -1));
        check.is("the lowest int", -1, () -> x.bound(0, 7, Build.LOW));
    }

    static void promise9_kBehindTheLastIsNone(Check check) {
        SequenceMatch x = new SequenceMatch();
        int tree = matchOfNoneAndThree(x);
        check.is("tree 2", tree + 3, () -> x.bound(0, 7, 2));
        check.is("tree 3", -1, () -> x.bound(0, 7, 3));
        check.is("tree 12", -1, () -> x.bound(0, 7, 12));
        check.is("the highest int", -1, () -> x.bound(0, 7, Build.HIGH));
    }

    static void promise9_tree11OfARowOf12(Check check) {
        SequenceMatch x = new SequenceMatch();
        int tree = Build.leaves(x, 0, 1, 2, 3, 4, 5, 6, 7, 8, 9, 10, 11, 12);
        int pattern = Build.node(x, 0, x.hole(6, Build.SOME));
        x.match(pattern, tree, 400);
        check.is("tree 11", tree + 24 - 12, () -> x.bound(0, 6, 11));
        check.is("tree 12", -1, () -> x.bound(0, 6, 12));
        check.is("the next name", -1, () -> x.bound(0, 7, 0));
    }

    static void promise9_rowOfNoneHasNoTree(Check check) {
        SequenceMatch x = new SequenceMatch();
        matchOfNoneAndThree(x);
        check.is("tree 0 of none", -1, () -> x.bound(0, 0, 0));
    }

    static void promise9_nameWithNothingHasNoTree(Check check) {
        SequenceMatch x = new SequenceMatch();
        matchOfNoneAndThree(x);
        check.is("tree 0", -1, () -> x.bound(0, 1, 0));
        check.is("tree -1", -1, () -> x.bound(0, 1, -1));
    }

    static void promise9_nameMinus1AndName8AreNone(Check check) {
        SequenceMatch x = new SequenceMatch();
        matchOfNoneAndThree(x);
        check.throwsArgument("name -1", () -> x.bound(0, -1, 0));
        check.throwsArgument("name 8", () -> x.bound(0, 8, 0));
        check.throwsArgument("the lowest int", () -> x.bound(0, Build.LOW, 0));
        check.throwsArgument("the highest int", () -> x.bound(0, Build.HIGH, 0));
    }

    static void promise9_noSuchMatch(Check check) {
        SequenceMatch x = new SequenceMatch();
        matchOfNoneAndThree(x);
        check.throwsIndex("match -1", () -> x.bound(-1, 7, 0));
        check.throwsIndex("match 1 of 1", () -> x.bound(1, 7, 0));
        check.throwsIndex("the lowest int", () -> x.bound(Build.LOW, 7, 0));
        check.throwsIndex("the highest int", () -> x.bound(Build.HIGH, 7, 0));
    }

    static void promise9_match19IsTheLastKept(Check check) {
        SequenceMatch x = new SequenceMatch();
        int pattern = holes(x, 0, 3);
        int tree = Build.leaves(x, 0, 1, 2, 3, 4, 5);
        x.match(pattern, tree, 400);
        check.is("match 19", tree + 1, () -> x.bound(19, 0, 0));
        check.throwsIndex("match 20 of 21", () -> x.bound(20, 0, 0));
    }

    static void promise9_noSuchMatchIsToldAheadOfNoSuchName(Check check) {
        SequenceMatch x = new SequenceMatch();
        matchOfNoneAndThree(x);
        check.throwsIndex("match 1, name 8", () -> x.bound(1, 8, 0));
        check.throwsIndex("match -1, name -1", () -> x.bound(-1, -1, 0));
    }

    static void promise9_matchBehindNoneIsNone(Check check) {
        SequenceMatch x = new SequenceMatch();
        int tree = matchOfNoneAndThree(x);
        int leaf = x.leaf(9);
        check.is("no match", 0, () -> x.match(leaf, tree, 400));
        check.throwsIndex("match 0", () -> x.bound(0, 7, 0));
    }

    // Promise 10: many.

    static void promise10_rowOfNoneIs0(Check check) {
        SequenceMatch x = new SequenceMatch();
        matchOfNoneAndThree(x);
        check.is("name 0", 0, () -> x.many(0, 0));
    }

    static void promise10_nothingIsMinus1(Check check) {
        SequenceMatch x = new SequenceMatch();
        matchOfNoneAndThree(x);
        for (int name = 1; name < 7; name++) {
            int n = name;
            check.is("name " + name, -1, () -> x.many(0, n));
        }
    }

    static void promise10_name7HasThree(Check check) {
        SequenceMatch x = new SequenceMatch();
        matchOfNoneAndThree(x);
        check.is("name 7", 3, () -> x.many(0, 7));
    }

    static void promise10_nameMinus1AndName8AreNone(Check check) {
        SequenceMatch x = new SequenceMatch();
        matchOfNoneAndThree(x);
        check.throwsArgument("name -1", () -> x.many(0, -1));
        check.throwsArgument("name 8", () -> x.many(0, 8));
        check.throwsArgument("the lowest int", () -> x.many(0, Build.LOW));
        check.throwsArgument("the highest int", () -> x.many(0, Build.HIGH));
    }

    static void promise10_noSuchMatch(Check check) {
        SequenceMatch x = new SequenceMatch();
        matchOfNoneAndThree(x);
        check.throwsIndex("match -1", () -> x.many(-1, 7));
        check.throwsIndex("match 1 of 1", () -> x.many(1, 7));
        check.throwsIndex("the lowest int", () -> x.many(Build.LOW, 7));
        check.throwsIndex("the highest int", () -> x.many(Build.HIGH, 7));
    }

    static void promise10_match19IsTheLastKept(Check check) {
        SequenceMatch x = new SequenceMatch();
        int pattern = holes(x, 0, 3);
        int tree = Build.leaves(x, 0, 1, 2, 3, 4, 5);
        x.match(pattern, tree, 400);
        check.is("match 19", 1, () -> x.many(19, 1));
        check.throwsIndex("match 20 of 21", () -> x.many(20, 1));
    }

    static void promise10_noSuchMatchIsToldAheadOfNoSuchName(Check check) {
        SequenceMatch x = new SequenceMatch();
        matchOfNoneAndThree(x);
        check.throwsIndex("match 1, name 8", () -> x.many(1, 8));
        check.throwsIndex("match -1, name -1", () -> x.many(-1, -1));
    }

    static void promise10_laterTreesLeaveAMatch(Check check) {
        SequenceMatch x = new SequenceMatch();
        matchOfNoneAndThree(x);
        Build.leaves(x, 0, 4, 5, 6);
        x.rule(x.hole(7, Build.ONE));
        x.net(0);
        check.is("name 7", 3, () -> x.many(0, 7));
    }
}
