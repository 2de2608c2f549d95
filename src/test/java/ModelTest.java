import java.util.ArrayList;
import java.util.List;
import java.util.Random;
import java.util.function.IntSupplier;

/** Random runs, the same on every machine, on the class and on the model: every answer must be the same. */
public final class ModelTest {
    private static final int RUNS = 2500;
    private static final int CALLS = 500;
    private static final int[] WILD = {Integer.MIN_VALUE, -1, 8, 12, 100, 240, 401, Integer.MAX_VALUE};

    private final Check check;
    private final Random random;
    private final String run;
    private final SequenceMatch real = new SequenceMatch();
    private final Model model = new Model();
    /** How far apart names and heads are in this run: few names make many trees equal. */
    private final int spread;
    /** Wide trees beside holes for several: more matches than are kept, more tries than are told. */
    private final boolean isWide;
    private int calls = 0;

    private static int spentCount = 0;
    private static int manyMatches = 0;
    private static int someMatches = 0;
    private static int firstFound = 0;
    private static int firstLate = 0;

    private ModelTest(Check check, int seed) {
        this.check = check;
        this.random = new Random(seed);
        this.run = "run " + seed + ", call ";
        this.spread = 1 + random.nextInt(4);
        this.isWide = random.nextInt(3) == 0;
    }

    public static void main(String[] args) {
        Check check = new Check("ModelTest");
        for (int seed = 0; seed < RUNS; seed++) {
            new ModelTest(check, seed).go();
        }
        // A random test that never reaches these would prove little.
        check.same("runs reach spent matches", true, spentCount > 1000);
        check.same("runs reach more matches than are kept", true, manyMatches > 200);
        check.same("runs reach ordinary matches", true, someMatches > 1000);
        check.same("runs reach rules that match first", true, firstFound > 1000);
        check.same("runs reach rules asked with no tries left", true, firstLate > 20);
        check.end();
    }

    private void go() {
        while (calls < CALLS) {
            int turn = random.nextInt(100);
            if (isWide && turn < 20) {
                makeWide();
            } else if (turn < 12) {
                makeLeafOrHole();
            } else if (turn < 34) {
                makeNode(random.nextInt(3) > 0);
            } else if (turn < 40) {
                addTest();
            } else if (turn < 75) {
                askMatch();
            } else if (turn < 80) {
                int pattern = anyTree(random.nextInt(3) == 0);
                both("rule(" + pattern + ")", () -> real.rule(pattern), () -> model.rule(pattern));
            } else if (turn < 88) {
                askRules();
            } else if (turn < 94) {
                askTrees();
            } else {
                callWild();
            }
        }
    }

    private String both(String call, IntSupplier ofReal, IntSupplier ofModel) {
        calls++;
        String due = Check.answer(ofModel);
        check.same(run + calls + ": " + call, due, Check.answer(ofReal));
        return due;
    }

    private void makeLeafOrHole() {
        if (random.nextInt(2) == 0) {
            int name = random.nextInt(spread);
            both("leaf(" + name + ")", () -> real.leaf(name), () -> model.leaf(name));
        } else {
            int name = random.nextInt(Math.min(8, spread + 1));
            int kind = random.nextInt(4);
            both("hole(" + name + ", " + kind + ")", () -> real.hole(name, kind), () -> model.hole(name, kind));
        }
    }

    private void makeNode(boolean isPlain) {
        int firstHead = random.nextInt(2) == 0 ? 0 : 5;
        int head = firstHead + random.nextInt(Math.min(2, spread));
        both("node(" + head + ")", () -> real.node(head), () -> model.node(head));
        int node = model.trees.size() - 1;
        int most = random.nextInt(random.nextInt(10) == 0 ? 14 : 6);
        for (int i = 0; i < most; i++) {
            addPart(node, anyTree(isPlain));
        }
    }

    private void makeWide() {
        int head = random.nextInt(2) == 0 ? 0 : 5;
        both("node(" + head + ")", () -> real.node(head), () -> model.node(head));
        int node = model.trees.size() - 1;
        boolean isPlain = random.nextInt(2) == 0;
        int most = isPlain ? 4 + random.nextInt(6) : 2 + random.nextInt(3);
        for (int i = 0; i < most; i++) {
            makeWidePart(isPlain);
            addPart(node, model.trees.size() - 1);
        }
        if (!isPlain && random.nextInt(2) == 0) {
            makeVainRule(node);
        }
    }

    /** A last part that is in no tree: all ways are gone through and none is a match. */
    private void makeVainRule(int node) {
        both("leaf(50)", () -> real.leaf(50), () -> model.leaf(50));
        addPart(node, model.trees.size() - 1);
        both("rule(" + node + ")", () -> real.rule(node), () -> model.rule(node));
    }

    private void makeWidePart(boolean isPlain) {
        int name = random.nextInt(isPlain ? spread : 8);
        int kind = random.nextInt(5) == 0 ? random.nextInt(4) : 3;
        if (isPlain) {
            both("leaf(" + name + ")", () -> real.leaf(name), () -> model.leaf(name));
        } else {
            both("hole(" + name + ", " + kind + ")", () -> real.hole(name, kind), () -> model.hole(name, kind));
        }
    }

    private void addPart(int node, int part) {
        both("more(" + node + ", " + part + ")",
                () -> real.more(node, part) ? 1 : 0, () -> model.more(node, part) ? 1 : 0);
    }

    private void addTest() {
        int hole = anyTree(false);
        int kind = random.nextInt(5);
        int v = random.nextInt(4) - 1 + (kind == 3 ? 5 * random.nextInt(2) : 0);
        both("test(" + hole + ", " + kind + ", " + v + ")",
                () -> real.test(hole, kind, v) ? 1 : 0, () -> model.test(hole, kind, v) ? 1 : 0);
    }

    /** Often of the latest trees, which are the larger ones. */
    private int anyTree(boolean isPlain) {
        List<Integer> fit = new ArrayList<>();
        for (Model.Tree t : model.trees) {
            if (!isPlain || t.isPlain()) {
                fit.add(t.number);
            }
        }
        if (fit.isEmpty()) {
            return 0;
        }
        int from = random.nextInt(3) == 0 ? Math.max(0, fit.size() - 12) : 0;
        return fit.get(from + random.nextInt(fit.size() - from));
    }

    private int plainOfHead(int pattern) {
        List<Integer> fit = new ArrayList<>();
        for (Model.Tree t : model.trees) {
            Model.Tree p = model.trees.get(pattern);
            if (t.isPlain() && t.sort == p.sort && t.name == p.name) {
                fit.add(t.number);
            }
        }
        return fit.isEmpty() ? anyTree(true) : fit.get(random.nextInt(fit.size()));
    }

    private void askMatch() {
        if (model.trees.isEmpty()) {
            return;
        }
        int pattern = anyTree(false);
        int tree = random.nextInt(4) == 0 ? anyTree(true) : plainOfHead(pattern);
        int tries = random.nextInt(3) == 0 ? random.nextInt(60) : 400;
        String due = both("match(" + pattern + ", " + tree + ", " + tries + ")",
                () -> real.match(pattern, tree, tries), () -> model.match(pattern, tree, tries));
        both("tried()", real::tried, model::tried);
        if (due.equals("-1")) {
            spentCount++;
        } else if (!due.startsWith("I") && Integer.parseInt(due) > 20) {
            manyMatches++;
        } else if (!due.startsWith("I") && Integer.parseInt(due) > 0) {
            someMatches++;
        }
        askKept();
    }

    private void askKept() {
        both("count(2)", () -> real.count(2), () -> model.count(2));
        // The first, the last and one behind it: all of them would use up the run's calls.
        int last = model.count(2) - 1;
        for (int match : new int[] {0, last, random.nextInt(last + 2)}) {
            int name = random.nextInt(8);
            both("many(" + match + ", " + name + ")", () -> real.many(match, name), () -> model.many(match, name));
            int k = random.nextInt(4) - 1;
            both("bound(" + match + ", " + name + ", " + k + ")",
                    () -> real.bound(match, name, k), () -> model.bound(match, name, k));
        }
        // Looking at every tree of every match changes nothing, so it isn't counted as calls.
        for (int match = 0; match <= last; match++) {
            for (int name = 0; name < 8; name++) {
                check.same(run + calls + ": many", model.many(match, name), real.many(match, name));
                for (int k = 0; k < model.many(match, name); k++) {
                    check.same(run + calls + ": bound", model.bound(match, name, k), real.bound(match, name, k));
                }
            }
        }
    }

    private void askRules() {
        boolean ofRule = !model.rules.isEmpty() && random.nextInt(2) == 0;
        int tree = ofRule
                ? plainOfHead(model.rules.get(random.nextInt(model.rules.size())).number)
                : anyTree(random.nextInt(10) > 0);
        if (random.nextInt(2) == 0) {
            both("net(" + tree + ")", () -> real.net(tree), () -> model.net(tree));
        } else {
            String due = both("first(" + tree + ")", () -> real.first(tree), () -> model.first(tree));
            both("tried()", real::tried, model::tried);
            firstFound += due.startsWith("I") || due.equals("-1") ? 0 : 1;
            firstLate += due.equals("-1") && model.tried() == 0 && model.askedByFirst > 0 ? 1 : 0;
            askKept();
        }
        for (int k = -1; k < 4; k++) {
            int at = k;
            both("rules(" + k + ")", () -> real.rules(at), () -> model.rules(at));
        }
    }

    private void askTrees() {
        int a = anyTree(random.nextInt(5) > 0);
        int b = anyTree(random.nextInt(5) > 0);
        both("order(" + a + ", " + b + ")", () -> real.order(a, b), () -> model.order(a, b));
        both("parts(" + a + ")", () -> real.parts(a), () -> model.parts(a));
        for (int k = -1; k < 4; k++) {
            int at = k;
            both("part(" + a + ", " + k + ")", () -> real.part(a, at), () -> model.part(a, at));
        }
        int what = random.nextInt(5) - 1;
        both("count(" + what + ")", () -> real.count(what), () -> model.count(what));
    }

    private int wild() {
        return random.nextInt(3) > 0 ? WILD[random.nextInt(WILD.length)] : random.nextInt(10);
    }

    private void callWild() {
        int a = wild();
        int b = wild();
        int c = wild();
        String args = "(" + a + ", " + b + ", " + c + ")";
        switch (random.nextInt(12)) {
            case 0 -> both("leaf" + args, () -> real.leaf(a), () -> model.leaf(a));
            case 1 -> both("node" + args, () -> real.node(a), () -> model.node(a));
            case 2 -> both("hole" + args, () -> real.hole(a, b), () -> model.hole(a, b));
            case 3 -> addPart(a, b);
            case 4 -> both("test" + args, () -> real.test(a, b, c) ? 1 : 0, () -> model.test(a, b, c) ? 1 : 0);
            case 5 -> both("match" + args, () -> real.match(a, b, c), () -> model.match(a, b, c));
            case 6 -> both("bound" + args, () -> real.bound(a, b, c), () -> model.bound(a, b, c));
            case 7 -> both("many" + args, () -> real.many(a, b), () -> model.many(a, b));
            case 8 -> both("rule" + args, () -> real.rule(a), () -> model.rule(a));
            case 9 -> both("net" + args, () -> real.net(a), () -> model.net(a));
            case 10 -> both("first" + args, () -> real.first(a), () -> model.first(a));
            default -> both("order" + args, () -> real.order(a, b), () -> model.order(a, b));
        }
        both("parts" + args, () -> real.parts(a), () -> model.parts(a));
        both("part" + args, () -> real.part(a, b), () -> model.part(a, b));
        both("rules" + args, () -> real.rules(a), () -> model.rules(a));
        both("count" + args, () -> real.count(a), () -> model.count(a));
        both("tried()", real::tried, model::tried);
    }
}
