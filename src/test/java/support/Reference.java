import java.math.BigInteger;
import java.util.ArrayList;
import java.util.HashMap;
import java.util.LinkedHashMap;
import java.util.List;
import java.util.Map;

/** The document's terms written down once more, as plainly as can be: ways are listed, not numbered. */
final class Reference {
    static final class Node {
        int kind;
        int label;
        int mark;
        int number;
        int letters;
        boolean footed;
        Tree tree;
        Node parent;
        final List<Node> children = new ArrayList<>();
    }

    static final class Tree {
        int number;
        final List<Node> nodes = new ArrayList<>();

        Node root() {
            return nodes.get(0);
        }

        boolean isGuest() {
            return root().footed;
        }

        Node firstLetter() {
            for (Node node : nodes) {
                if (node.kind == 1) {
                    return node;
                }
            }
            return null;
        }
    }

    static final class Step {
        final Tree tree;
        final Map<Node, Step> inside;
        int number;
        int head = -1;
        Step into;
        Node at;

        Step(Tree tree, Map<Node, Step> inside) {
            this.tree = tree;
            this.inside = inside;
        }
    }

    /** A way with all that is asked of it. */
    static final class Told {
        final List<Step> steps = new ArrayList<>();
        final List<Step> letterSteps = new ArrayList<>();
        final List<Node> letterNodes = new ArrayList<>();
        final StringBuilder letters = new StringBuilder();
        String text;
        int deepest;
        int branches;
    }

    static final class Fault extends RuntimeException {
        final int kind;
        final int place;

        Fault(int kind, int place) {
            this.kind = kind;
            this.place = place;
        }
    }

    final List<Tree> trees = new ArrayList<>();
    final boolean[] out = new boolean[8];
    String sentence = "";
    private String source;
    private int pos;
    private Tree reading;
    private int nodesInAll;
    private final Map<String, BigInteger> counted = new HashMap<>();

    // ---- the grammar's text

    void parse(String text) {
        source = text;
        pos = 0;
        trees.clear();
        nodesInAll = 0;
        skip();
        while (pos < source.length()) {
            parseLine();
        }
        forget();
    }

    private void skip() {
        while (pos < source.length() && (source.charAt(pos) == ' ' || source.charAt(pos) == '\n')) {
            pos++;
        }
    }

    private int peek() {
        return pos < source.length() ? source.charAt(pos) : -1;
    }

    private void next() {
        pos++;
        skip();
    }

    private void parseLine() {
        if (!source.startsWith("tree", pos)) {
            throw new Fault(1, pos);
        }
        if (trees.size() == 8) {
            throw new Fault(3, pos);
        }
        pos += 4;
        skip();
        if (peek() != '(') {
            throw new Fault(1, pos);
        }
        reading = new Tree();
        reading.number = trees.size();
        parseBranch(null);
        if (peek() != ';') {
            throw new Fault(1, pos);
        }
        next();
        trees.add(reading);
    }

    private Node newNode(int kind, int label, Node parent) {
        if (reading.nodes.size() == 12 || nodesInAll == 40) {
            throw new Fault(3, pos);
        }
        Node node = new Node();
        node.kind = kind;
        node.label = label;
        node.parent = parent;
        node.tree = reading;
        node.number = reading.nodes.size();
        reading.nodes.add(node);
        nodesInAll++;
        if (parent != null) {
            parent.children.add(node);
        }
        for (Node up = node; up != null; up = up.parent) {
            up.footed |= kind == 3;
            up.letters += kind == 1 ? 1 : 0;
        }
        return node;
    }

    private static boolean isLabel(int sign) {
        return sign >= 'A' && sign <= 'Z';
    }

    private void parseBranch(Node parent) {
        next();
        if (!isLabel(peek())) {
            throw new Fault(1, pos);
        }
        Node branch = newNode(0, peek() - 'A', parent);
        next();
        if (peek() == '!' || peek() == '+') {
            branch.mark = peek() == '!' ? 1 : 2;
            next();
        }
        parseChild(branch);
        if (peek() != ')') {
            parseChild(branch);
        }
        if (peek() != ')') {
            throw new Fault(1, pos);
        }
        if (parent == null) {
            boolean hungry = false;
            for (Node node : reading.nodes) {
                hungry |= node.kind == 3 || node.kind == 4;
            }
            if (hungry && reading.root().letters == 0) {
                throw new Fault(4, pos);
            }
        }
        next();
    }

    private void parseChild(Node branch) {
        int sign = peek();
        if (sign == '(') {
            parseBranch(branch);
        } else if (sign >= 'a' && sign <= 'z') {
            newNode(1, sign - 'a', branch);
            next();
        } else if (sign == '.') {
            newNode(2, -1, branch);
            next();
        } else if (isLabel(sign)) {
            parseLabelled(branch);
        } else {
            throw new Fault(1, pos);
        }
    }

    private void parseLabelled(Node branch) {
        int at = pos;
        int label = peek() - 'A';
        next();
        int behind = peek();
        int afterLabel = pos;
        pos = at;
        boolean badFoot = reading.root().footed || reading.root().label != label;
        if (behind == '*' && badFoot) {
            throw new Fault(2, at);
        }
        newNode(behind == '*' ? 3 : 4, label, branch);
        pos = afterLabel;
        if (behind != '*' && behind != '^') {
            throw new Fault(1, pos);
        }
        next();
    }

    // ---- over

    void forget() {
        counted.clear();
    }

    int start() {
        return trees.isEmpty() ? -1 : trees.get(0).root().label;
    }

    private List<Tree> treesOf(int label, boolean guests) {
        List<Tree> fitting = new ArrayList<>();
        for (Tree tree : trees) {
            if (!out[tree.number] && tree.isGuest() == guests && tree.root().label == label) {
                fitting.add(tree);
            }
        }
        return fitting;
    }

    private static int covered(int i, int j, int p, int q) {
        return p < 0 ? j - i : j - i - (q - p);
    }

    BigInteger count(Node node, boolean above, int i, int j, int p, int q) {
        if (out[node.tree.number] || covered(i, j, p, q) < node.letters) {
            return BigInteger.ZERO;
        }
        String key = node.tree.number + " " + node.number + " " + above + " " + i + " " + j + " " + p + " " + q;
        BigInteger known = counted.get(key);
        if (known == null) {
            known = node.kind != 0 ? countLeaf(node, i, j, p, q)
                : above ? countAbove(node, i, j, p, q) : countBelow(node, i, j, p, q);
            counted.put(key, known);
        }
        return known;
    }

    private BigInteger countLeaf(Node node, int i, int j, int p, int q) {
        boolean over;
        switch (node.kind) {
            case 1:
                over = j == i + 1 && sentence.charAt(i) - 'a' == node.label;
                break;
            case 2:
                over = i == j;
                break;
            case 3:
                over = i == p && j == q;
                break;
            default:
                BigInteger sum = BigInteger.ZERO;
                for (Tree host : treesOf(node.label, false)) {
                    sum = sum.add(count(host.root(), true, i, j, -1, -1));
                }
                return sum;
        }
        return over ? BigInteger.ONE : BigInteger.ZERO;
    }

    private BigInteger countBelow(Node node, int i, int j, int p, int q) {
        Node first = node.children.get(0);
        if (node.children.size() == 1) {
            return count(first, true, i, j, p, q);
        }
        Node second = node.children.get(1);
        BigInteger sum = BigInteger.ZERO;
        for (int k = i; k <= j; k++) {
            if (first.footed && k < q || second.footed && k > p) {
                continue;
            }
            int p1 = first.footed ? p : -1;
            int q1 = first.footed ? q : -1;
            int p2 = second.footed ? p : -1;
            int q2 = second.footed ? q : -1;
            // Asking for one with too few letters for the other would ask in a circle.
            if (covered(i, k, p1, q1) >= first.letters && covered(k, j, p2, q2) >= second.letters) {
                sum = sum.add(count(first, true, i, k, p1, q1).multiply(count(second, true, k, j, p2, q2)));
            }
        }
        return sum;
    }

    private BigInteger countAbove(Node node, int i, int j, int p, int q) {
        BigInteger sum = node.mark == 2 ? BigInteger.ZERO : count(node, false, i, j, p, q);
        if (node.mark != 1) {
            for (Tree guest : treesOf(node.label, true)) {
                for (int a = i; a <= j; a++) {
                    for (int b = a; b <= j; b++) {
                        if (p < 0 || a <= p && q <= b) {
                            BigInteger inner = count(node, false, a, b, p, q);
                            if (inner.signum() > 0) {
                                sum = sum.add(inner.multiply(count(guest.root(), true, i, j, a, b)));
                            }
                        }
                    }
                }
            }
        }
        return sum;
    }

    BigInteger countWays(int letters) {
        BigInteger sum = BigInteger.ZERO;
        for (Tree host : treesOf(start(), false)) {
            sum = sum.add(count(host.root(), true, 0, letters, -1, -1));
        }
        return sum;
    }

    // ---- ways, in their order

    List<Step> listWays() {
        List<Step> steps = new ArrayList<>();
        for (Tree host : treesOf(start(), false)) {
            for (Map<Node, Step> piece : list(host.root(), true, 0, sentence.length(), -1, -1)) {
                steps.add(new Step(host, piece));
            }
        }
        return steps;
    }

    private List<Map<Node, Step>> list(Node node, boolean above, int i, int j, int p, int q) {
        List<Map<Node, Step>> pieces = new ArrayList<>();
        if (count(node, above, i, j, p, q).signum() == 0) {
            return pieces;
        }
        if (node.kind == 0) {
            if (above) {
                listAbove(pieces, node, i, j, p, q);
            } else {
                listBelow(pieces, node, i, j, p, q);
            }
        } else if (node.kind == 4) {
            for (Tree host : treesOf(node.label, false)) {
                for (Map<Node, Step> piece : list(host.root(), true, i, j, -1, -1)) {
                    pieces.add(Map.of(node, new Step(host, piece)));
                }
            }
        } else {
            pieces.add(Map.of());
        }
        return pieces;
    }

    private static Map<Node, Step> joined(Map<Node, Step> one, Map<Node, Step> other) {
        Map<Node, Step> both = new LinkedHashMap<>(one);
        both.putAll(other);
        return both;
    }

    private void listAbove(List<Map<Node, Step>> pieces, Node node, int i, int j, int p, int q) {
        if (node.mark != 2) {
            pieces.addAll(list(node, false, i, j, p, q));
        }
        if (node.mark == 1) {
            return;
        }
        for (Tree guest : treesOf(node.label, true)) {
            for (int a = i; a <= j; a++) {
                for (int b = a; b <= j; b++) {
                    if (p >= 0 && (a > p || b < q) || count(node, false, a, b, p, q).signum() == 0) {
                        continue;
                    }
                    for (Map<Node, Step> outer : list(guest.root(), true, i, j, a, b)) {
                        for (Map<Node, Step> inner : list(node, false, a, b, p, q)) {
                            pieces.add(joined(Map.of(node, new Step(guest, outer)), inner));
                        }
                    }
                }
            }
        }
    }

    private void listBelow(List<Map<Node, Step>> pieces, Node node, int i, int j, int p, int q) {
        Node first = node.children.get(0);
        if (node.children.size() == 1) {
            pieces.addAll(list(first, true, i, j, p, q));
            return;
        }
        Node second = node.children.get(1);
        for (int k = i; k <= j; k++) {
            if (first.footed && k < q || second.footed && k > p) {
                continue;
            }
            int p1 = first.footed ? p : -1;
            int q1 = first.footed ? q : -1;
            int p2 = second.footed ? p : -1;
            int q2 = second.footed ? q : -1;
            if (count(second, true, k, j, p2, q2).signum() == 0) {
                continue;
            }
            for (Map<Node, Step> one : list(first, true, i, k, p1, q1)) {
                for (Map<Node, Step> other : list(second, true, k, j, p2, q2)) {
                    pieces.add(joined(one, other));
                }
            }
        }
    }

    // ---- what is told of a way

    /** Makes new steps of it first: parts of a listed way may belong to many. */
    Told tell(Step way) {
        Told told = new Told();
        Step root = copy(way);
        number(told, root);
        StringBuilder text = new StringBuilder();
        grow(told, text, root, root.tree.root(), true, 0);
        told.text = text.toString();
        return told;
    }

    private Step copy(Step step) {
        Map<Node, Step> inside = new LinkedHashMap<>();
        for (Map.Entry<Node, Step> entry : step.inside.entrySet()) {
            Step other = copy(entry.getValue());
            other.at = entry.getKey();
            inside.put(entry.getKey(), other);
        }
        Step mine = new Step(step.tree, inside);
        for (Step other : inside.values()) {
            other.into = mine;
        }
        return mine;
    }

    private void number(Told told, Step step) {
        step.number = told.steps.size();
        told.steps.add(step);
        numberFrom(told, step, step.tree.root());
    }

    private void numberFrom(Told told, Step step, Node node) {
        if (step.inside.containsKey(node)) {
            number(told, step.inside.get(node));
        }
        for (Node child : node.children) {
            numberFrom(told, step, child);
        }
    }

    private void grow(Told told, StringBuilder text, Step step, Node node, boolean above, int depth) {
        if (above && step.inside.containsKey(node)) {
            Step other = step.inside.get(node);
            grow(told, text, other, other.tree.root(), true, depth);
            return;
        }
        switch (node.kind) {
            case 0:
                told.branches++;
                told.deepest = Math.max(told.deepest, depth + 1);
                text.append('(').append((char) ('A' + node.label));
                for (Node child : node.children) {
                    text.append(' ');
                    grow(told, text, step, child, true, depth + 1);
                }
                text.append(')');
                break;
            case 1:
                if (step.tree.firstLetter() == node) {
                    step.head = told.letters.length();
                }
                text.append((char) ('a' + node.label));
                told.letters.append((char) ('a' + node.label));
                told.letterSteps.add(step);
                told.letterNodes.add(node);
                break;
            case 2:
                text.append('.');
                break;
            default:
                grow(told, text, step.into, step.at, false, depth);
                break;
        }
    }

    static int arcs(Told told, int what) {
        List<int[]> arcs = new ArrayList<>();
        for (Step step : told.steps) {
            if (step.into != null && step.head >= 0 && step.into.head >= 0) {
                arcs.add(new int[] {step.head, step.into.head});
            }
        }
        int crossing = 0;
        int longest = 0;
        for (int x = 0; x < arcs.size(); x++) {
            longest = Math.max(longest, Math.abs(arcs.get(x)[0] - arcs.get(x)[1]));
            for (int y = 0; y < x; y++) {
                crossing += cross(arcs.get(x), arcs.get(y)) ? 1 : 0;
            }
        }
        return what == 0 ? arcs.size() : what == 1 ? crossing : longest;
    }

    private static boolean cross(int[] one, int[] other) {
        for (int head : one) {
            if (head == other[0] || head == other[1]) {
                return false;
            }
        }
        return between(one[0], other) != between(one[1], other);
    }

    private static boolean between(int head, int[] arc) {
        return Math.min(arc[0], arc[1]) < head && head < Math.max(arc[0], arc[1]);
    }

    // ---- steps told as numbers

    /** What test() answers, letters being put into the builder if they are due. */
    int test(List<int[]> steps, StringBuilder letters) {
        List<Step> made = new ArrayList<>();
        for (int[] told : steps) {
            Step step = fitting(made, told);
            if (step == null) {
                return -100 - made.size();
            }
            step.number = made.size();
            made.add(step);
        }
        for (Step step : made) {
            for (Node node : step.tree.nodes) {
                if (node.kind == 4 && !step.inside.containsKey(node)) {
                    return -200 - step.number;
                }
            }
        }
        for (Step step : made) {
            for (Node node : step.tree.nodes) {
                if (node.mark == 2 && !step.inside.containsKey(node)) {
                    return -300 - step.number;
                }
            }
        }
        Told told = tell(made.get(0));
        letters.append(told.letters);
        return told.letters.toString().equals(sentence) ? 1 : 0;
    }

    private Step fitting(List<Step> made, int[] told) {
        if (told[0] >= trees.size() || out[told[0]]) {
            return null;
        }
        Tree tree = trees.get(told[0]);
        Step step = new Step(tree, new LinkedHashMap<>());
        if (made.isEmpty()) {
            return tree.isGuest() || tree.root().label != start() ? null : step;
        }
        if (told[1] >= made.size() || told[2] >= made.get(told[1]).tree.nodes.size()) {
            return null;
        }
        Step host = made.get(told[1]);
        Node node = host.tree.nodes.get(told[2]);
        boolean kindFits = tree.isGuest() ? node.kind == 0 : node.kind == 4;
        if (!kindFits || node.label != tree.root().label || node.mark == 1 || host.inside.containsKey(node)) {
            return null;
        }
        host.inside.put(node, step);
        return step;
    }
}
