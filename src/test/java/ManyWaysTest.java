import java.math.BigInteger;
import java.util.ArrayList;
import java.util.List;
import java.util.Random;
import java.util.TreeSet;

/** Grammars with places, letterless hosts and many branches, whose ways are too many to be listed, some too great. */
public final class ManyWaysTest {
    private static final BigInteger MOST = BigInteger.valueOf(1000000000000000L);
    private static final int CELLS_LOOKED_AT = 300;

    private final Checks checks = new Checks();
    private final Random random;
    private final int[] seen = new int[4];
    private CrossReader x;
    private Reference r;
    private String labels;
    private String marks;

    private ManyWaysTest(long seed) {
        random = new Random(seed);
    }

    public static void main(String[] args) {
        int rounds = args.length > 0 ? Integer.parseInt(args[0]) : 200;
        ManyWaysTest test = new ManyWaysTest(args.length > 1 ? Long.parseLong(args[1]) : 20261118L);
        for (int round = 0; round < rounds && test.checks.wrongOnes() == 0; round++) {
            test.round(round);
        }
        System.out.println("rounds with ways " + test.seen[0] + ", too great " + test.seen[1] + ", more than a thousand "
            + test.seen[2] + ", most steps " + test.seen[3]);
        test.checks.due("rounds with too many ways", test.seen[1] > 0 ? 1 : 0, 1);
        test.checks.due("rounds with many ways", test.seen[2] > 0 ? 1 : 0, 1);
        test.checks.finish();
    }

    private int pick(int most) {
        return random.nextInt(most);
    }

    private void round(int round) {
        String text = randomGrammar();
        String sentence = "aaaaaaaa".substring(pick(3) == 0 ? pick(8) : 0);
        checks.about("round " + round + " " + text + " " + sentence);
        x = Checks.reader(text, sentence);
        r = new Reference();
        r.parse(text);
        r.sentence = sentence;
        BigInteger ways = r.countWays(sentence.length());
        checks.due("ways()", x.ways(), shown(ways));
        lookAtCells();
        lookAtMissing(ways);
        seen[0] += ways.signum();
        if (ways.compareTo(MOST) > 0) {
            seen[1]++;
            lookAtTooGreat();
        } else if (ways.signum() > 0) {
            seen[2] += ways.longValue() > 1000 ? 1 : 0;
            lookAtOrder(ways.longValue());
        }
    }

    // ---- making grammars

    private String randomGrammar() {
        labels = pick(3) == 0 ? "ST" : "S";
        marks = pick(2) == 0 ? " " : pick(2) == 0 ? "       !+" : "  !";
        StringBuilder text = new StringBuilder();
        int nodes = 0;
        int trees = 2 + pick(7);
        for (int attempt = 0; attempt < 100 && trees > 0; attempt++) {
            String one = randomTree();
            int size = sizeOf(one);
            if (size > 0 && nodes + size <= 40 && text.length() + one.length() <= 400) {
                text.append(one);
                nodes += size;
                trees--;
            }
        }
        return text.toString();
    }

    private static int sizeOf(String text) {
        Reference probe = new Reference();
        try {
            probe.parse(text);
        } catch (Reference.Fault fault) {
            return 0;
        }
        return probe.trees.get(0).nodes.size();
    }

    private char label() {
        return labels.charAt(pick(labels.length()));
    }

    private String opening() {
        return "(" + label() + marks.charAt(pick(marks.length()));
    }

    private String randomTree() {
        char root = label();
        int kind = pick(3);
        List<String> parts = new ArrayList<>();
        for (int part = pick(kind == 0 ? 3 : 5); part >= 0; part--) {
            parts.add(kind != 0 && pick(5) != 0 ? label() + "^" : ".");
        }
        if (kind != 0) {
            parts.add(pick(parts.size() + 1), "a");
        }
        if (kind == 2) {
            parts.add(pick(parts.size() + 1), root + "*");
        }
        while (parts.size() > 1) {
            int at = pick(parts.size() - 1);
            parts.set(at, opening() + parts.get(at) + parts.remove(at + 1) + ")");
        }
        StringBuilder tree = new StringBuilder(parts.get(0));
        for (int more = pick(pick(2) == 0 ? 11 : 3); more > 0 || tree.charAt(0) != '('; more--) {
            tree.insert(0, opening()).append(')');
        }
        tree.setCharAt(1, root);
        return tree.insert(0, "tree").append(';').toString();
    }

    // ---- looking at numbers

    private static long shown(BigInteger number) {
        return number.compareTo(MOST) > 0 ? CrossReader.TOO_GREAT : number.longValue();
    }

    private void lookAtCells() {
        int n = r.sentence.length();
        for (int turn = 0; turn < CELLS_LOOKED_AT; turn++) {
            Reference.Tree tree = r.trees.get(pick(r.trees.size()));
            Reference.Node node = tree.nodes.get(pick(tree.nodes.size()));
            int i = pick(n + 1);
            int j = i + pick(n + 1 - i);
            int p = node.footed ? i + pick(j + 1 - i) : -1;
            int q = node.footed ? p + pick(j + 1 - p) : -1;
            int half = pick(2);
            checks.due("over(" + tree.number + ", " + node.number + ", " + half + ", " + i + ", " + j + ", " + p + ", "
                + q + ")", x.over(tree.number, node.number, half, i, j, p, q),
                shown(r.count(node, half == 1, i, j, p, q)));
        }
    }

    /** A tree is in some way if there are fewer without it, in each if there are none. */
    private void lookAtMissing(BigInteger ways) {
        int some = 0;
        int every = 0;
        for (Reference.Tree tree : r.trees) {
            r.out[tree.number] = true;
            r.forget();
            BigInteger left = r.countWays(r.sentence.length());
            checks.due("without(" + tree.number + ")", x.without(tree.number), shown(left));
            r.out[tree.number] = false;
            some |= left.compareTo(ways) < 0 ? 1 << tree.number : 0;
            every |= ways.signum() > 0 && left.signum() == 0 ? 1 << tree.number : 0;
        }
        r.forget();
        checks.due("used(0)", x.used(0), some);
        checks.due("used(1)", x.used(1), every);
    }

    private void lookAtTooGreat() {
        checks.due("reads()", x.reads(), 1);
        checks.due("steps(-1)", x.steps(-1), -2);
        checks.due("steps(0)", x.steps(0), CrossReader.TOO_GREAT);
        checks.due("tell(0)", x.tell(0), CrossReader.TOO_GREAT);
        checks.due("tellWay of a great one", x.tellWay(Long.MAX_VALUE), CrossReader.TOO_GREAT);
        checks.due("count(9)", x.count(9), 0);
        checks.due("fewest not above most", x.lengths(0) > 0 && x.lengths(0) <= x.lengths(1) ? 1 : 0, 1);
    }

    // ---- looking at the order of ways

    private int[] tree;
    private int[][] inside;

    private void lookAtOrder(long ways) {
        TreeSet<Long> ranks = new TreeSet<>(List.of(0L, ways - 1));
        for (int turn = 0; turn < 6; turn++) {
            long rank = Math.floorMod(random.nextLong(), ways);
            ranks.add(rank);
            ranks.add(Math.min(rank + 1, ways - 1));
        }
        List<Integer> former = new ArrayList<>();
        for (long rank : ranks) {
            lookAtSteps(rank);
            if (checks.wrongOnes() > 0) {
                return;
            }
            List<Integer> key = new ArrayList<>(List.of(tree[0]));
            addAbove(key, 0, root(0), 0, 0);
            checks.due("order of way " + rank, isAhead(former, key) ? 1 : 0, 1);
            former = key;
        }
        checks.due("steps behind the last", x.steps(ways), CrossReader.NONE);
    }

    private void lookAtSteps(long rank) {
        int bytes = x.tellWay(rank);
        String text = Checks.told(x);
        checks.due("tellWay(" + rank + ")", bytes, text.length());
        String[] rows = text.split(";");
        tree = new int[rows.length];
        inside = new int[rows.length][12];
        for (int step = 0; step < rows.length; step++) {
            String[] numbers = rows[step].split(" ");
            tree[step] = Integer.parseInt(numbers[0]);
            if (step > 0) {
                int into = Integer.parseInt(numbers[1]);
                checks.due("ahead of step " + step, into < step ? 1 : 0, 1);
                inside[into][Integer.parseInt(numbers[2])] = step;
            }
        }
        checks.due("steps(" + rank + ")", x.steps(rank), rows.length);
        seen[3] = Math.max(seen[3], rows.length);
        checks.due("lengths", x.lengths(0) <= rows.length && rows.length <= x.lengths(1) ? 1 : 0, 1);
        if (rows.length <= 40) {
            checks.due("test() of " + text, Checks.test(x, text), 1);
        }
    }

    private Reference.Node root(int step) {
        return r.trees.get(tree[step]).root();
    }

    /** The letters of what has grown from a node, those at its foot aside. */
    private int letters(int step, Reference.Node node, boolean above) {
        int other = inside[step][node.number];
        int sum = node.kind == 1 ? 1 : 0;
        sum += above && other > 0 ? letters(other, root(other), true) : 0;
        for (Reference.Node child : node.children) {
            sum += letters(step, child, true);
        }
        return sum;
    }

    private int lettersAheadOfFoot(int step, Reference.Node node) {
        int other = inside[step][node.number];
        int sum = node.kind == 0 && other > 0 ? lettersAheadOfFoot(other, root(other)) : 0;
        for (Reference.Node child : node.children) {
            if (child.footed) {
                return sum + lettersAheadOfFoot(step, child);
            }
            sum += letters(step, child, true);
        }
        return sum;
    }

    /** Numbers by which ways are told apart, the foremost first; the node's letters are from i on around a gap. */
    private void addAbove(List<Integer> key, int step, Reference.Node node, int i, int gap) {
        int other = inside[step][node.number];
        if (node.kind == 4 && other == 0) {
            checks.fail("nothing is put into node " + node.number + " of step " + step);
        } else if (node.kind == 4) {
            key.add(tree[other]);
            addAbove(key, other, root(other), i, 0);
        } else if (node.kind == 0 && other == 0) {
            key.add(-1);
            addBelow(key, step, node, i, gap);
        } else if (node.kind == 0) {
            int p = i + lettersAheadOfFoot(other, root(other));
            int size = letters(step, node, false) + (node.footed ? gap : 0);
            key.addAll(List.of(tree[other], p, p + size));
            addAbove(key, other, root(other), i, size);
            addBelow(key, step, node, p, gap);
        }
    }

    private void addBelow(List<Integer> key, int step, Reference.Node node, int i, int gap) {
        Reference.Node first = node.children.get(0);
        if (node.children.size() == 1) {
            addAbove(key, step, first, i, gap);
            return;
        }
        int end = i + letters(step, first, true) + (first.footed ? gap : 0);
        key.add(end);
        addAbove(key, step, first, i, gap);
        addAbove(key, step, node.children.get(1), end, gap);
    }

    private static boolean isAhead(List<Integer> one, List<Integer> other) {
        for (int at = 0; at < one.size() && at < other.size(); at++) {
            if (!one.get(at).equals(other.get(at))) {
                return one.get(at) < other.get(at);
            }
        }
        return one.isEmpty();
    }
}
