import java.util.ArrayList;
import java.util.Collections;
import java.util.List;
import java.util.Random;
import java.util.function.IntSupplier;

/**
 * Random runs, the same on every machine, on the class and on the model, whose patterns are made from trees by putting
 * holes into them: they match deep within, where patterns made without a tree in mind hardly ever do.
 */
public final class LikeTest {
    private static final int RUNS = 2500;
    private static final int CALLS = 220;
    private static final int TREES = 190;

    private final Check check;
    private final Random random;
    private final String run;
    private final SequenceMatch real = new SequenceMatch();
    private final Model model = new Model();
    private final int leafNames;
    private final int holeNames;
    private final int anyOrderOfHundred;
    private int calls = 0;

    private static int deepMatches = 0;
    private static int firstFound = 0;

    private LikeTest(Check check, int seed) {
        this.check = check;
        this.random = new Random(seed);
        this.run = "run " + seed + ", call ";
        this.leafNames = 1 + random.nextInt(4);
        this.holeNames = 1 + random.nextInt(8);
        this.anyOrderOfHundred = 50 * random.nextInt(3);
    }

    public static void main(String[] args) {
        Check check = new Check("LikeTest");
        for (int seed = 0; seed < RUNS; seed++) {
            new LikeTest(check, seed).go();
        }
        // A random test that never reaches these would prove little.
        check.same("runs reach matches of patterns with holes two deep or deeper", true, deepMatches > 1000);
        check.same("runs reach rules that match first", true, firstFound > 1000);
        check.end();
    }

    private void go() {
        List<Integer> trees = new ArrayList<>();
        while (calls < CALLS && model.trees.size() < TREES) {
            int tree = makePlain(1 + random.nextInt(4));
            trees.add(tree);
            for (int i = 0; i < 3 && model.trees.size() < TREES; i++) {
                int other = trees.get(random.nextInt(trees.size()));
                askMatch(makeLike(tree, 0), random.nextInt(5) == 0 ? other : tree);
            }
            askFirst(trees.get(random.nextInt(trees.size())));
        }
        check.same(run + calls + " is within an object's 512", true, calls <= 512);
    }

    private String both(String call, IntSupplier ofReal, IntSupplier ofModel) {
        calls++;
        String due = Check.answer(ofModel);
        check.same(run + calls + ": " + call, due, Check.answer(ofReal));
        return due;
    }

    private int makePlain(int depth) {
        if (depth == 0 || random.nextInt(4) == 0) {
            return random.nextInt(6) == 0 ? makeNode(anyHead(), List.of()) : makeLeaf(random.nextInt(leafNames));
        }
        List<Integer> parts = new ArrayList<>();
        int count = random.nextInt(5);
        for (int i = 0; i < count; i++) {
            boolean isSameAgain = i > 0 && random.nextInt(4) == 0;
            parts.add(isSameAgain ? parts.get(i - 1) : makePlain(depth - 1));
        }
        return makeNode(anyHead(), parts);
    }

    private int anyHead() {
        return (random.nextInt(100) < anyOrderOfHundred ? 5 : 0) + random.nextInt(2);
    }

    /** The tree once more, with holes here and there, and with parts left out or brought in. */
    private int makeLike(int tree, int depth) {
        Model.Tree of = model.trees.get(tree);
        if (depth > 0 && random.nextInt(10) < 3) {
            return makeHole(random.nextInt(4));
        }
        if (of.sort == Model.LEAF) {
            return random.nextBoolean() ? tree : makeLeaf(of.name);
        }
        if (depth > 0 && random.nextInt(8) == 0) {
            return tree;
        }
        List<Integer> parts = new ArrayList<>();
        for (Model.Tree part : of.parts) {
            int turn = random.nextInt(12);
            if (turn == 1 || turn == 2) {
                parts.add(makeHole(2 + random.nextInt(2)));
            }
            if (turn > 1) {
                parts.add(makeLike(part.number, depth + 1));
            }
        }
        if (of.name >= 5 && random.nextBoolean()) {
            Collections.shuffle(parts, random);
        }
        return makeNode(of.name, parts);
    }

    private int makeLeaf(int name) {
        both("leaf(" + name + ")", () -> real.leaf(name), () -> model.leaf(name));
        return model.trees.size() - 1;
    }

    private int makeNode(int head, List<Integer> parts) {
        both("node(" + head + ")", () -> real.node(head), () -> model.node(head));
        int node = model.trees.size() - 1;
        for (int part : parts) {
            both("more(" + node + ", " + part + ")",
                    () -> real.more(node, part) ? 1 : 0, () -> model.more(node, part) ? 1 : 0);
        }
        return node;
    }

    private int makeHole(int kind) {
        int name = random.nextInt(holeNames);
        both("hole(" + name + ", " + kind + ")", () -> real.hole(name, kind), () -> model.hole(name, kind));
        int hole = model.trees.size() - 1;
        if (random.nextInt(4) == 0) {
            int test = random.nextInt(5);
            int v = random.nextInt(4) - 1 + (test == 3 ? 5 * random.nextInt(2) : 0);
            both("test(" + hole + ", " + test + ", " + v + ")",
                    () -> real.test(hole, test, v) ? 1 : 0, () -> model.test(hole, test, v) ? 1 : 0);
        }
        return hole;
    }

    private void askMatch(int pattern, int tree) {
        int tries = random.nextInt(4) == 0 ? random.nextInt(100) : 400;
        both("match(" + pattern + ", " + tree + ", " + tries + ")",
                () -> real.match(pattern, tree, tries), () -> model.match(pattern, tree, tries));
        askKept();
        Model.Tree p = model.trees.get(pattern);
        deepMatches += model.count(2) > 0 && !p.isPlain() && p.depth() > 1 ? 1 : 0;
        if (random.nextBoolean()) {
            both("rule(" + pattern + ")", () -> real.rule(pattern), () -> model.rule(pattern));
        }
    }

    private void askFirst(int tree) {
        String due = both("first(" + tree + ")", () -> real.first(tree), () -> model.first(tree));
        firstFound += due.equals("-1") ? 0 : 1;
        askKept();
        both("net(" + tree + ")", () -> real.net(tree), () -> model.net(tree));
        for (int k = 0; k < 3; k++) {
            int at = k;
            both("rules(" + k + ")", () -> real.rules(at), () -> model.rules(at));
        }
    }

    private void askKept() {
        both("tried()", real::tried, model::tried);
        both("count(2)", () -> real.count(2), () -> model.count(2));
        // Looking at every tree of every match changes nothing, so it isn't counted as calls.
        for (int match = 0; match < model.count(2); match++) {
            for (int name = 0; name < 8; name++) {
                check.same(run + calls + ": many", model.many(match, name), real.many(match, name));
                for (int k = 0; k < model.many(match, name); k++) {
                    check.same(run + calls + ": bound", model.bound(match, name, k), real.bound(match, name, k));
                }
            }
        }
    }
}
