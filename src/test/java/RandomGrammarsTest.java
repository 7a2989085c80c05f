import java.math.BigInteger;
import java.util.ArrayList;
import java.util.List;
import java.util.Random;

/** Compares the class with the reference, by grammars and sentences that numbers from a fixed seed make. */
public final class RandomGrammarsTest {
    private static final BigInteger MOST = BigInteger.valueOf(1000000000000000L);
    private static final int LISTABLE = 400;

    private final Checks checks = new Checks();
    private final Random random;
    private final int[] seen = new int[6];
    private CrossReader x;
    private Reference r;

    private RandomGrammarsTest(long seed) {
        random = new Random(seed);
    }

    public static void main(String[] args) {
        int rounds = args.length > 0 ? Integer.parseInt(args[0]) : 300;
        RandomGrammarsTest test = new RandomGrammarsTest(args.length > 1 ? Long.parseLong(args[1]) : 20261117L);
        for (int round = 0; round < rounds && test.checks.wrongOnes() == 0; round++) {
            test.round(round);
        }
        System.out.println("rounds with ways " + test.seen[0] + ", with several " + test.seen[1] + ", crossing "
            + test.seen[2] + ", too great " + test.seen[3] + ", mends " + test.seen[4] + ", sentences " + test.seen[5]);
        test.checks.finish();
    }

    private int pick(int most) {
        return random.nextInt(most);
    }

    private void round(int round) {
        String text = randomGrammar();
        x = new CrossReader();
        r = new Reference();
        checks.about("round " + round + " " + text);
        int trees = Checks.grammar(x, text);
        r.parse(text);
        checks.due("grammar()", trees, r.trees.size());
        lookAtTrees();
        for (int change = 0; change < 3; change++) {
            String sentence = randomSentence();
            checks.about("round " + round + " " + text + " change " + change + " " + sentence);
            checks.due("say()", Checks.say(x, sentence), sentence.length());
            r.sentence = sentence;
            r.forget();
            lookAtAll();
            changeGrammar();
            lookAtAll();
        }
    }

    private void lookAtAll() {
        lookAtCounts();
        lookAtChart();
        lookAtWays();
        lookAtMends();
        if (pick(3) == 0) {
            lookAtSentences();
        }
        lookAtTest();
    }

    // ---- making grammars and sentences

    private String letters = "ab";
    private String labels = "ST";

    private String randomGrammar() {
        letters = "abcdexyz".substring(0, 1 + pick(pick(4) == 0 ? 8 : 3));
        labels = "SABT".substring(0, 1 + pick(pick(2) == 0 ? 4 : 2));
        int trees = 1 + pick(8);
        StringBuilder text = new StringBuilder();
        int nodes = 0;
        for (int tree = 0; tree < trees; tree++) {
            for (int attempt = 0; attempt < 50; attempt++) {
                int wanted = Math.min(12, 2 + pick(pick(3) == 0 ? 11 : 5));
                String one = randomTree(wanted, pick(2) == 0);
                int size = sizeOf(one);
                if (size > 0 && nodes + size <= 40 && text.length() + one.length() < 399) {
                    text.append(one);
                    nodes += size;
                    break;
                }
            }
        }
        return text.toString();
    }

    private static int sizeOf(String text) {
        Reference probe = new Reference();
        try {
            probe.parse(text);
        } catch (Reference.Fault fault) {
            return 0;
        }
        return probe.trees.get(0).nodes.size();
    }

    private char root;
    private boolean footWanted;

    private String randomTree(int nodes, boolean guest) {
        root = labels.charAt(pick(labels.length()));
        footWanted = guest;
        StringBuilder text = new StringBuilder("tree");
        addBranch(text, nodes, root, true);
        return text.append(';').toString();
    }

    private void addBranch(StringBuilder text, int nodes, char label, boolean footHere) {
        text.append('(').append(label);
        int mark = pick(12);
        text.append(mark == 0 ? "!" : mark == 1 ? "+" : "");
        int rest = nodes - 1;
        if (rest < 2 || pick(5) == 0) {
            addChild(text, Math.max(1, rest), footHere && footWanted);
        } else {
            int left = pick(3) == 0 ? 1 : 1 + pick(rest - 1);
            boolean footLeft = pick(2) == 0;
            addChild(text, left, footLeft && footHere && footWanted);
            addChild(text, rest - left, !footLeft && footHere && footWanted);
        }
        text.append(')');
    }

    private void addChild(StringBuilder text, int nodes, boolean foot) {
        if (nodes >= 2) {
            addBranch(text, nodes, labels.charAt(pick(labels.length())), foot);
            return;
        }
        if (foot) {
            text.append(root).append('*');
            return;
        }
        int kind = pick(10);
        if (kind < 5) {
            text.append(letters.charAt(pick(letters.length())));
        } else if (kind < 7) {
            text.append('.');
        } else {
            text.append(labels.charAt(pick(labels.length()))).append('^');
        }
    }

    /** Most times one that some steps put together have, so that it is read. */
    private String randomSentence() {
        String yield = randomYield();
        if (yield != null && pick(6) != 0) {
            return yield;
        }
        StringBuilder text = new StringBuilder();
        int length = pick(9);
        for (int i = 0; i < length; i++) {
            text.append(letters.charAt(pick(letters.length())));
        }
        return text.toString();
    }

    private String randomYield() {
        String best = null;
        int wanted = pick(9);
        for (int attempt = 0; attempt < 30; attempt++) {
            StringBuilder yielded = new StringBuilder();
            if (r.test(randomSteps(1 + pick(8)), yielded) >= 0 && yielded.length() <= 8) {
                if (best == null || Math.abs(yielded.length() - wanted) < Math.abs(best.length() - wanted)) {
                    best = yielded.toString();
                }
            }
        }
        return best;
    }

    /** Steps most of which fit, the must-haves first. */
    private List<int[]> randomSteps(int wanted) {
        List<int[]> steps = new ArrayList<>();
        List<int[]> open = new ArrayList<>();
        for (int turn = 0; turn < 40 && (turn < wanted || !open.isEmpty()); turn++) {
            int[] step = turn == 0 ? new int[] {randomStart(), 0, 0} : randomNext(steps, open, turn >= wanted);
            if (step == null) {
                continue;
            }
            steps.add(step);
            for (Reference.Node node : r.trees.get(step[0]).nodes) {
                if (node.kind == 4 || node.kind == 0 && node.mark == 2) {
                    open.add(new int[] {steps.size() - 1, node.number});
                }
            }
        }
        return steps;
    }

    private int randomStart() {
        int tree = 0;
        for (int attempt = 0; attempt < 10; attempt++) {
            tree = pick(r.trees.size());
            Reference.Tree its = r.trees.get(tree);
            if (!its.isGuest() && its.root().label == r.start() && !r.out[tree]) {
                return tree;
            }
        }
        return tree;
    }

    private int[] randomNext(List<int[]> steps, List<int[]> open, boolean close) {
        int host = pick(steps.size());
        int node = pick(r.trees.get(steps.get(host)[0]).nodes.size());
        if (!open.isEmpty() && (close || pick(2) == 0)) {
            int[] spot = open.remove(pick(open.size()));
            host = spot[0];
            node = spot[1];
        }
        Reference.Node at = r.trees.get(steps.get(host)[0]).nodes.get(node);
        List<Integer> fitting = new ArrayList<>();
        for (Reference.Tree tree : r.trees) {
            boolean kindFits = tree.isGuest() ? at.kind == 0 && at.mark != 1 : at.kind == 4;
            if (kindFits && tree.root().label == at.label) {
                fitting.add(tree.number);
                if (close && tree.root().letters == 0) {
                    return new int[] {tree.number, host, node};
                }
            }
        }
        return fitting.isEmpty() ? null : new int[] {fitting.get(pick(fitting.size())), host, node};
    }

    private void changeGrammar() {
        int tree = pick(r.trees.size());
        if (pick(2) == 0) {
            int on = pick(2);
            checks.due("out(" + tree + ", " + on + ")", x.out(tree, on), r.out[tree] == (on == 1) ? 0 : 1);
            r.out[tree] = on == 1;
        } else {
            int number = pick(r.trees.get(tree).nodes.size());
            int mark = pick(3);
            Reference.Node node = r.trees.get(tree).nodes.get(number);
            checks.due("marks", x.marks(tree, number, mark), node.kind == 0 ? node.mark : -2);
            node.mark = node.kind == 0 ? mark : 0;
        }
        r.forget();
    }

    // ---- looking at answers

    private void lookAtTrees() {
        int nodes = 0;
        int letterBits = 0;
        int guests = 0;
        for (Reference.Tree tree : r.trees) {
            int t = tree.number;
            nodes += tree.nodes.size();
            guests |= tree.isGuest() ? 1 << t : 0;
            int foot = -1;
            int places = 0;
            for (Reference.Node node : tree.nodes) {
                foot = node.kind == 3 ? node.number : foot;
                places += node.kind == 4 ? 1 : 0;
                letterBits |= node.kind == 1 ? 1 << node.label : 0;
                lookAtNode(t, node);
            }
            checks.due("tree 0", x.tree(t, 0), tree.isGuest() ? 1 : 0);
            checks.due("tree 1", x.tree(t, 1), tree.nodes.size());
            checks.due("tree 2", x.tree(t, 2), tree.root().label);
            checks.due("tree 3", x.tree(t, 3), foot);
            checks.due("tree 4", x.tree(t, 4), tree.firstLetter() == null ? -1 : tree.firstLetter().number);
            checks.due("tree 5", x.tree(t, 5), places);
            checks.due("node too great", x.node(t, tree.nodes.size(), 0), -2);
        }
        checks.due("count(0)", x.count(0), r.trees.size());
        checks.due("count(1)", x.count(1), nodes);
        checks.due("count(3)", x.count(3), (1 << r.trees.size()) - 1 - guests);
        checks.due("count(4)", x.count(4), guests);
        checks.due("count(6)", x.count(6), r.start());
        checks.due("count(7)", x.count(7), letterBits);
        checks.due("tree too great", x.tree(r.trees.size(), 0), -2);
    }

    private void lookAtNode(int t, Reference.Node node) {
        int n = node.number;
        checks.due("node 0", x.node(t, n, 0), node.kind);
        checks.due("node 1", x.node(t, n, 1), node.label);
        checks.due("node 2", x.node(t, n, 2), node.mark);
        checks.due("node 3", x.node(t, n, 3), node.children.isEmpty() ? -1 : node.children.get(0).number);
        checks.due("node 4", x.node(t, n, 4), node.children.size() < 2 ? -1 : node.children.get(1).number);
        checks.due("node 5", x.node(t, n, 5), node.parent == null ? -1 : node.parent.number);
        checks.due("node 6", x.node(t, n, 6), node.footed ? 1 : 0);
    }

    private static long shown(BigInteger number) {
        return number.compareTo(MOST) > 0 ? -3 : number.longValue();
    }

    private void lookAtCounts() {
        int n = r.sentence.length();
        int heads = 0;
        for (int m = 0; m <= n; m++) {
            heads |= r.countWays(m).signum() > 0 ? 1 << m : 0;
        }
        BigInteger ways = r.countWays(n);
        checks.due("ways()", x.ways(), shown(ways));
        checks.due("reads()", x.reads(), ways.signum());
        checks.due("heads()", x.heads(), heads);
        int outs = 0;
        for (int t = 0; t < r.trees.size(); t++) {
            outs |= r.out[t] ? 1 << t : 0;
            boolean before = r.out[t];
            r.out[t] = true;
            r.forget();
            checks.due("without(" + t + ")", x.without(t), shown(r.countWays(n)));
            r.out[t] = before;
            r.forget();
        }
        checks.due("count(5)", x.count(5), outs);
    }

    private void lookAtChart() {
        int n = r.sentence.length();
        int[] items = new int[2];
        for (int i = 0; i <= n; i++) {
            for (int j = i; j <= n; j++) {
                int hosts = 0;
                for (Reference.Tree tree : r.trees) {
                    hosts |= !tree.isGuest() && r.count(tree.root(), true, i, j, -1, -1).signum() > 0
                        ? 1 << tree.number : 0;
                    for (Reference.Node node : tree.nodes) {
                        lookAtSpan(items, node, i, j);
                    }
                }
                checks.due("spans(" + i + ", " + j + ")", x.spans(i, j), hosts);
            }
        }
        checks.due("items(0)", x.items(0), items[0]);
        checks.due("items(1)", x.items(1), items[1]);
        int i = pick(n + 1);
        int j = i + pick(n + 1 - i);
        int p = i + pick(j + 1 - i);
        int q = p + pick(j + 1 - p);
        int guests = 0;
        for (Reference.Tree tree : r.trees) {
            guests |= tree.isGuest() && r.count(tree.root(), true, i, j, p, q).signum() > 0 ? 1 << tree.number : 0;
        }
        checks.due("around(" + i + ", " + j + ", " + p + ", " + q + ")", x.around(i, j, p, q), guests);
    }

    private void lookAtSpan(int[] items, Reference.Node node, int i, int j) {
        for (int half = 0; half < 2; half++) {
            if (!node.footed) {
                items[half] += lookAtOver(node, half, i, j, -1, -1);
            }
            for (int p = i; node.footed && p <= j; p++) {
                for (int q = p; q <= j; q++) {
                    items[half] += lookAtOver(node, half, i, j, p, q);
                }
            }
        }
    }

    private int lookAtOver(Reference.Node node, int half, int i, int j, int p, int q) {
        BigInteger count = r.count(node, half == 1, i, j, p, q);
        int t = node.tree.number;
        checks.due("over(" + t + ", " + node.number + ", " + half + ", " + i + ", " + j + ", " + p + ", " + q + ")",
            x.over(t, node.number, half, i, j, p, q), shown(count));
        return count.signum();
    }

    private void lookAtWays() {
        BigInteger all = r.countWays(r.sentence.length());
        if (all.compareTo(BigInteger.valueOf(LISTABLE)) > 0) {
            checks.due("steps(0)", x.steps(0) > 0 || shown(all) == -3 && x.steps(0) == -3 ? 1 : 0, 1);
            seen[3] += shown(all) == -3 ? 1 : 0;
            return;
        }
        List<Reference.Step> ways = r.listWays();
        checks.due("listed ways", ways.size(), all.longValue());
        seen[0] += ways.isEmpty() ? 0 : 1;
        seen[1] += ways.size() > 1 ? 1 : 0;
        int fewest = ways.isEmpty() ? -1 : 99;
        int most = -1;
        int some = 0;
        int every = ways.isEmpty() ? 0 : 255;
        for (int k = 0; k < ways.size(); k++) {
            Reference.Told told = r.tell(ways.get(k));
            lookAtWay(k, told);
            fewest = Math.min(fewest, told.steps.size());
            most = Math.max(most, told.steps.size());
            int bits = 0;
            for (Reference.Step step : told.steps) {
                bits |= 1 << step.tree.number;
            }
            some |= bits;
            every &= bits;
        }
        checks.due("steps behind the last", x.steps(ways.size()), -1);
        checks.due("lengths(0)", x.lengths(0), fewest);
        checks.due("lengths(1)", x.lengths(1), most);
        checks.due("used(0)", x.used(0), some);
        checks.due("used(1)", x.used(1), every);
    }

    private void lookAtWay(int k, Reference.Told told) {
        checks.due("steps(" + k + ")", x.steps(k), told.steps.size());
        StringBuilder way = new StringBuilder();
        for (Reference.Step step : told.steps) {
            int s = step.number;
            int into = step.into == null ? -1 : step.into.number;
            int at = step.at == null ? -1 : step.at.number;
            checks.due("step(" + k + ", " + s + ", 0)", x.step(k, s, 0), step.tree.number);
            checks.due("step(" + k + ", " + s + ", 1)", x.step(k, s, 1), into);
            checks.due("step(" + k + ", " + s + ", 2)", x.step(k, s, 2), at);
            checks.due("step(" + k + ", " + s + ", 3)", x.step(k, s, 3), step.head);
            way.append(step.tree.number).append(s == 0 ? ";" : " " + into + " " + at + ";");
        }
        for (int place = 0; place < r.sentence.length(); place++) {
            checks.due("whose 0", x.whose(k, place, 0), told.letterSteps.get(place).number);
            checks.due("whose 1", x.whose(k, place, 1), told.letterNodes.get(place).number);
        }
        for (int what = 0; what < 3; what++) {
            checks.due("arcs(" + k + ", " + what + ")", x.arcs(k, what), Reference.arcs(told, what));
        }
        seen[2] += Reference.arcs(told, 1) > 0 ? 1 : 0;
        checks.due("grown 0", x.grown(k, 0), told.deepest);
        checks.due("grown 1", x.grown(k, 1), told.branches);
        checks.due("tell", x.tell(k), told.text.length());
        checks.due("told", Checks.told(x), told.text);
        checks.due("tellWay", x.tellWay(k), way.length());
        checks.due("told way", Checks.told(x), way.toString());
        if (told.steps.size() <= 40 && way.length() <= 400) {
            checks.due("test of a way", Checks.test(x, way.toString()), 1);
            checks.due("told letters", Checks.told(x), r.sentence);
        }
    }

    private void lookAtMends() {
        String kept = r.sentence;
        List<Integer> mends = new ArrayList<>();
        for (int place = 0; place < kept.length(); place++) {
            for (int letter = 0; letter < 26; letter++) {
                if ((x.count(7) >> letter & 1) == 1 && kept.charAt(place) != 'a' + letter) {
                    r.sentence = kept.substring(0, place) + (char) ('a' + letter) + kept.substring(place + 1);
                    r.forget();
                    if (r.countWays(kept.length()).signum() > 0) {
                        mends.add(100 * place + letter);
                    }
                }
            }
        }
        r.sentence = kept;
        r.forget();
        seen[4] += mends.isEmpty() ? 0 : 1;
        checks.due("mends()", x.mends(), mends.size());
        for (int k = 0; k <= mends.size(); k++) {
            checks.due("mend(" + k + ")", x.mend(k), k < mends.size() ? mends.get(k) : -1);
        }
    }

    private void lookAtSentences() {
        int bits = x.count(7);
        if (Integer.bitCount(bits) > 4) {
            checks.due("sentences(0)", x.sentences(0), -5);
            checks.due("sentence(4, 0)", x.sentence(4, 0), -5);
            return;
        }
        String kept = r.sentence;
        for (int m = 0; m <= 4; m++) {
            List<Integer> codes = new ArrayList<>();
            listSentences(codes, bits, m, "", 0);
            checks.due("sentences(" + m + ")", x.sentences(m), codes.size());
            for (int k = 0; k <= codes.size(); k++) {
                checks.due("sentence(" + m + ", " + k + ")", x.sentence(m, k), k < codes.size() ? codes.get(k) : -1);
            }
            seen[5] += codes.isEmpty() ? 0 : 1;
        }
        r.sentence = kept;
        r.forget();
    }

    private void listSentences(List<Integer> codes, int bits, int m, String text, int code) {
        if (text.length() == m) {
            r.sentence = text;
            r.forget();
            if (r.countWays(m).signum() > 0) {
                codes.add(code);
            }
            return;
        }
        for (int letter = 0; letter < 26; letter++) {
            if ((bits >> letter & 1) == 1) {
                listSentences(codes, bits, m, text + (char) ('a' + letter), 27 * code + letter + 1);
            }
        }
    }

    private void lookAtTest() {
        for (int turn = 0; turn < 6; turn++) {
            List<int[]> steps = randomSteps(1 + pick(6));
            if (pick(3) == 0) {
                steps.get(pick(steps.size()))[pick(3)] = pick(12);
            }
            StringBuilder text = new StringBuilder();
            for (int s = 0; s < steps.size(); s++) {
                int[] step = steps.get(s);
                text.append(step[0]).append(s == 0 ? ";" : " " + step[1] + " " + step[2] + ";");
            }
            if (text.length() > 400) {
                continue;
            }
            String before = Checks.told(x);
            StringBuilder yielded = new StringBuilder();
            int due = r.test(steps, yielded);
            checks.due("test() of " + text, Checks.test(x, text.toString()), due);
            checks.due("told by test() of " + text, Checks.told(x), due < 0 ? before : yielded.toString());
        }
    }
}
