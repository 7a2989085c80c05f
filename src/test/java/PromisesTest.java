/** Each promise of the document by its number, with answers that are worked out by hand. */
public final class PromisesTest {
    private static final int NONE = CrossReader.NONE;
    /** Puts letters into the middle. */
    private static final String NESTS = "tree (S .);tree (S! a (S b S*));tree (S! c (S d S*));";
    /** Copies a word by other letters: what belongs together crosses. */
    private static final String CROSS = "tree (S .);tree (S! a (S S* x));tree (S! b (S S* y));";
    private static final String PLACES = "tree (S A^ (B S^ v));tree (A a);tree (A .);tree (B b);tree (S! x S*);";

    private final Checks checks = new Checks();

    public static void main(String[] args) {
        PromisesTest test = new PromisesTest();
        test.newObject();
        test.tape();
        test.grammarAndFault();
        test.sayAndCount();
        test.treeAndNode();
        test.outTrees();
        test.marksOfBranches();
        test.overSpans();
        test.itemsSpansAround();
        test.readsHeadsWays();
        test.tooGreat();
        test.lengthsAndUsed();
        test.stepsOfWays();
        test.orderOfWays();
        test.arcsAndGrown();
        test.told();
        test.testTexts();
        test.testRefusals();
        test.mending();
        test.shortSentences();
        test.largestWays();
        test.checks.finish();
    }

    private void due(String call, long got, long want) {
        checks.due(call, got, want);
    }

    private void newObject() {
        checks.about("promise 1");
        CrossReader x = new CrossReader();
        due("NONE", CrossReader.NONE, -1);
        due("TOO_GREAT", CrossReader.TOO_GREAT, -3);
        int[] counts = {0, 0, 0, 0, 0, 0, NONE, 0, 0, 0, NONE, NONE};
        for (int what = 0; what < counts.length; what++) {
            due("count(" + what + ")", x.count(what), counts[what]);
        }
        due("count(-1)", x.count(-1), NONE);
        due("reads()", x.reads(), 0);
        due("ways()", x.ways(), 0);
        due("heads()", x.heads(), 0);
        due("spans(0, 0)", x.spans(0, 0), 0);
        due("around(0, 0, 0, 0)", x.around(0, 0, 0, 0), 0);
        due("octet(0)", x.octet(0), NONE);
        due("fault(0)", x.fault(0), 0);
        due("fault(1)", x.fault(1), NONE);
        due("sentences(0)", x.sentences(0), 0);
        due("sentences(4)", x.sentences(4), 0);
        due("mends()", x.mends(), 0);
        due("used(1)", x.used(1), 0);
        due("lengths(1)", x.lengths(1), NONE);
        due("steps(0)", x.steps(0), NONE);
        due("test()", x.test(), -4);
        due("say()", x.say(), 0);
        due("grammar()", x.grammar(), 0);
    }

    private void tape() {
        checks.about("promises 2, 3");
        CrossReader x = new CrossReader();
        for (int more = 20; more <= 400; more += 20) {
            due("feed", x.feed(0x74726565, 0, -1, Integer.MIN_VALUE, 7), more);
        }
        due("feed beyond 400", x.feed(1, 2, 3, 4, 5), NONE);
        due("count(8)", x.count(8), 400);
        due("end(401)", x.end(401), NONE);
        due("end(-1)", x.end(-1), NONE);
        due("count(8) behind refused ends", x.count(8), 400);
        due("end(400), all of it", x.end(400), 400);
        due("end(381)", x.end(381), 381);
        due("feed to 401", x.feed(1, 2, 3, 4, 5), NONE);
        due("count(8)", x.count(8), 381);
        due("end(380)", x.end(380), 380);
        due("feed to 400", x.feed(1, 2, 3, 4, 5), 400);
        due("end(0)", x.end(0), 0);
        due("end(1)", x.end(1), NONE);
        due("feed", x.feed(0x61626364, 0x65666768, 0x69000000, 0, 0), 20);
        due("end(8)", x.end(8), 8);
        due("say() of abcdefgh", x.say(), 8);
        Checks.grammar(x, "tree (S (U a b)(U c T^));tree (T d (T e (T f (T g h))));");
        due("bytes come highest first", x.reads(), 1);
    }

    private void grammarAndFault() {
        checks.about("promises 4, 5");
        CrossReader x = Checks.reader(NESTS, "abcd");
        due("count(0)", x.count(0), 3);
        due("ways()", x.ways(), 0);
        x.out(0, 1);
        due("a fault", Checks.grammar(x, "tree (S a)"), -4);
        due("fault(0)", x.fault(0), 1);
        due("fault(1)", x.fault(1), 10);
        due("fault(2)", x.fault(2), NONE);
        due("fault(-1)", x.fault(-1), NONE);
        due("the tape is empty", x.count(8), 0);
        due("the former one stays", x.count(0), 3);
        due("OUT ones stay", x.count(5), 1);
        due("the SENTENCE stays", x.count(2), 4);
        due("another one", Checks.grammar(x, "tree (S (A a b)(A c d));"), 1);
        due("fault(0)", x.fault(0), 0);
        due("fault(1)", x.fault(1), NONE);
        due("none is OUT", x.count(5), 0);
        due("the SENTENCE is read", x.reads(), 1);
        due("blanks, new lines", Checks.grammar(x, "\n tree ( S\n! ( A a b ) ( A c d ) ) \n;\n"), 1);
        due("MARK", x.node(0, 0, 2), 1);
        due("read", x.reads(), 1);
        due("the word, whatever follows", Checks.grammar(x, "tree(S a);tree(S b);"), 2);
        due("none", Checks.grammar(x, "  "), 0);
        due("count(6)", x.count(6), NONE);
        due("reads()", x.reads(), 0);
    }

    private void sayAndCount() {
        checks.about("promises 6, 7");
        CrossReader x = Checks.reader(PLACES, "av");
        due("nine letters", Checks.say(x, "aaaaaaaaa"), -4);
        due("the tape is empty", x.count(8), 0);
        due("a blank", Checks.say(x, "a b"), -4);
        due("a LABEL", Checks.say(x, "aB"), -4);
        due("a byte below a", Checks.say(x, "a`"), -4);
        due("a byte behind z", Checks.say(x, "a{"), -4);
        due("a byte above 127", Checks.say(x, "" + (char) 225), -4);
        due("it stays", x.count(2), 2);
        int[] counts = {5, 14, 2, 15, 16, 0, 'S' - 'A', 1 | 2 | 1 << 21 | 1 << 23, 0, 0, NONE};
        for (int what = 0; what < counts.length; what++) {
            due("count(" + what + ")", x.count(what), counts[what]);
        }
        x.out(1, 1);
        x.out(4, 1);
        due("OUT ones", x.count(5), 18);
        due("HOSTS, OUT ones, too", x.count(3), 15);
        due("GUESTS, OUT ones, too", x.count(4), 16);
        due("LETTERS, OUT ones, too", x.count(7), 1 | 2 | 1 << 21 | 1 << 23);
        due("eight letters", Checks.say(x, "abcdwxyz"), 8);
        due("count(2)", x.count(2), 8);
        due("none", x.say(), 0);
        due("count(2)", x.count(2), 0);
        Checks.tape(x, "abc");
        due("bytes of the TAPE", x.count(8), 3);
        CrossReader guestFirst = Checks.reader("tree (T a T*);tree (T b);tree (S c);", "ab");
        due("START is of TREE 0, be it a GUEST", guestFirst.count(6), 'T' - 'A');
        due("and read by its HOSTS", guestFirst.ways(), 1);
        guestFirst.out(0, 1);
        due("be it OUT", guestFirst.count(6), 'T' - 'A');
        due("then this is not read", guestFirst.ways(), 0);
        Checks.say(guestFirst, "b");
        due("but that", guestFirst.ways(), 1);
    }

    private void treeAndNode() {
        checks.about("promises 8, 9");
        CrossReader x = Checks.reader("tree (S . (A! B^ (C+ c (D A^ d))));tree (B (E B* e) .);", "");
        int[][] trees = {{0, 9, 'S' - 'A', NONE, 5, 2}, {1, 5, 1, 2, 3, 0}};
        for (int t = 0; t < 2; t++) {
            for (int what = 0; what < 6; what++) {
                due("tree(" + t + ", " + what + ")", x.tree(t, what), trees[t][what]);
            }
            due("tree(" + t + ", 6)", x.tree(t, 6), -2);
            due("tree(" + t + ", -1)", x.tree(t, -1), -2);
        }
        due("tree(2, 0)", x.tree(2, 0), -2);
        due("tree(-1, 0)", x.tree(-1, 0), -2);
        int[][] nodes = {
            {0, 18, 0, 1, 2, NONE, 0}, {2, NONE, 0, NONE, NONE, 0, 0}, {0, 0, 1, 3, 4, 0, 0},
            {4, 1, 0, NONE, NONE, 2, 0}, {0, 2, 2, 5, 6, 2, 0}, {1, 2, 0, NONE, NONE, 4, 0},
            {0, 3, 0, 7, 8, 4, 0}, {4, 0, 0, NONE, NONE, 6, 0}, {1, 3, 0, NONE, NONE, 6, 0}
        };
        int[][] guestNodes = {
            {0, 1, 0, 1, 4, NONE, 1}, {0, 4, 0, 2, 3, 0, 1}, {3, 1, 0, NONE, NONE, 1, 1},
            {1, 4, 0, NONE, NONE, 1, 0}, {2, NONE, 0, NONE, NONE, 0, 0}
        };
        lookAtNodes(x, 0, nodes);
        lookAtNodes(x, 1, guestNodes);
        due("node(2, 0, 0)", x.node(2, 0, 0), -2);
        due("node(-1, 0, 0)", x.node(-1, 0, 0), -2);
    }

    private void lookAtNodes(CrossReader x, int tree, int[][] nodes) {
        for (int n = 0; n < nodes.length; n++) {
            for (int what = 0; what < 7; what++) {
                due("node(" + tree + ", " + n + ", " + what + ")", x.node(tree, n, what), nodes[n][what]);
            }
            due("what 7", x.node(tree, n, 7), -2);
            due("what -1", x.node(tree, n, -1), -2);
        }
        due("a NODE too many", x.node(tree, nodes.length, 0), -2);
        due("NODE -1", x.node(tree, -1, 0), -2);
    }

    private void outTrees() {
        checks.about("promise 10");
        CrossReader x = Checks.reader("tree (S a);tree (S a);", "a");
        due("ways()", x.ways(), 2);
        due("out(0, 1)", x.out(0, 1), 1);
        due("out(0, 1) again", x.out(0, 1), 0);
        due("ways()", x.ways(), 1);
        due("step(0, 0, 0)", x.step(0, 0, 0), 1);
        due("spans(0, 1)", x.spans(0, 1), 2);
        due("over 0 of one that is OUT", x.over(0, 0, 1, 0, 1, NONE, NONE), 0);
        due("-2 of one that is OUT", x.over(0, 0, 1, 0, 2, NONE, NONE), -2);
        due("items(1)", x.items(1), 2);
        due("out(1, 0)", x.out(1, 0), 0);
        due("out(1, 1)", x.out(1, 1), 1);
        due("count(5)", x.count(5), 3);
        due("reads()", x.reads(), 0);
        due("out(0, 0)", x.out(0, 0), 1);
        due("reads()", x.reads(), 1);
        due("out(2, 1)", x.out(2, 1), -2);
        due("out(-1, 1)", x.out(-1, 1), -2);
        due("out(0, 2)", x.out(0, 2), -2);
        due("out(0, -1)", x.out(0, -1), -2);
        due("count(5)", x.count(5), 2);
    }

    private void marksOfBranches() {
        checks.about("promise 11");
        CrossReader x = Checks.reader("tree (S (S a));tree (S! b S*);", "ba");
        due("ways()", x.ways(), 2);
        due("marks(0, 0, 1)", x.marks(0, 0, 1), 0);
        due("ways()", x.ways(), 1);
        due("marks(0, 1, 1)", x.marks(0, 1, 1), 0);
        due("ways()", x.ways(), 0);
        due("marks(0, 1, 2)", x.marks(0, 1, 2), 1);
        due("ways()", x.ways(), 1);
        due("node(0, 1, 2)", x.node(0, 1, 2), 2);
        due("marks(0, 0, 2)", x.marks(0, 0, 2), 1);
        due("both must, one b", x.ways(), 0);
        Checks.say(x, "bba");
        due("both must, two", x.ways(), 1);
        due("marks(1, 0, 0)", x.marks(1, 0, 0), 1);
        due("marks(0, 0, 0)", x.marks(0, 0, 0), 2);
        due("a GUEST in a GUEST, too", x.ways(), 2);
        due("marks(0, 2, 1): a LETTER", x.marks(0, 2, 1), -2);
        due("marks(1, 2, 1): a FOOT", x.marks(1, 2, 1), -2);
        due("marks(0, 0, 3)", x.marks(0, 0, 3), -2);
        due("marks(0, 0, -1)", x.marks(0, 0, -1), -2);
        due("marks(0, 3, 0)", x.marks(0, 3, 0), -2);
        due("marks(2, 0, 0)", x.marks(2, 0, 0), -2);
        due("marks(0, -1, 0)", x.marks(0, -1, 0), -2);
    }

    private void overSpans() {
        checks.about("promise 12");
        CrossReader x = Checks.reader(PLACES, "xaxavv");
        due("a LETTER over itself", x.over(1, 1, 0, 1, 2, NONE, NONE), 1);
        due("a LETTER over another", x.over(1, 1, 0, 0, 1, NONE, NONE), 0);
        due("an EMPTY one", x.over(2, 1, 0, 6, 6, NONE, NONE), 1);
        due("an EMPTY one over more", x.over(2, 1, 1, 0, 1, NONE, NONE), 0);
        due("a FOOT, its SPAN being its GAP", x.over(4, 2, 0, 1, 4, 1, 4), 1);
        due("a FOOT, another GAP", x.over(4, 2, 0, 1, 4, 1, 3), 0);
        due("a PLACE", x.over(0, 1, 1, 1, 2, NONE, NONE), 1);
        due("a PLACE, a HOST with nothing", x.over(0, 1, 1, 3, 3, NONE, NONE), 1);
        due("a GUEST below", x.over(4, 0, 0, 2, 6, 3, 6), 1);
        due("a GUEST, no GAP", x.over(4, 0, 0, 2, 6, NONE, NONE), -2);
        due("a GAP that can't be", x.over(0, 0, 1, 0, 6, 0, 6), -2);
        due("half -1", x.over(0, 0, -1, 0, 6, NONE, NONE), -2);
        due("half 2", x.over(0, 0, 2, 0, 6, NONE, NONE), -2);
        due("i below 0", x.over(0, 0, 0, -1, 6, NONE, NONE), -2);
        due("j too great", x.over(0, 0, 0, 0, 7, NONE, NONE), -2);
        due("i above j", x.over(0, 0, 0, 4, 3, NONE, NONE), -2);
        due("q above j", x.over(4, 0, 0, 0, 3, 1, 4), -2);
        due("p above q", x.over(4, 0, 0, 0, 3, 2, 1), -2);
        due("p below i", x.over(4, 0, 0, 1, 3, 0, 1), -2);
        due("p NONE alone", x.over(0, 0, 0, 0, 6, NONE, 3), -2);
        due("TREE 5", x.over(5, 0, 0, 0, 6, NONE, NONE), -2);
        due("NODE 5", x.over(0, 5, 0, 0, 6, NONE, NONE), -2);
        CrossReader y = Checks.reader("tree (S (S! a));tree (S b S*);tree (S S* b);", "bab");
        due("below: without a GUEST here", y.over(0, 0, 0, 0, 3, NONE, NONE), 0);
        due("above: b, b on each side, both orders", y.over(0, 0, 1, 0, 3, NONE, NONE), 2);
        due("MARK 1", y.over(0, 1, 1, 0, 2, NONE, NONE), 0);
        due("over a part", y.over(0, 0, 1, 0, 2, NONE, NONE), 1);
        due("a GUEST around a GUEST's FOOT", y.over(1, 0, 1, 0, 3, 1, 2), 1);
        due("the same, below", y.over(1, 0, 0, 0, 3, 1, 2), 0);
    }

    private void itemsSpansAround() {
        checks.about("promises 13, 14, 15");
        CrossReader x = Checks.reader("tree (S a);tree (S b S*);tree (S S* b);", "ab");
        // below: S over 0..1, a, S with b around 2..2, b, its FOOT 6; S around 0..1, 1..1 with b, its FOOT 6, b.
        due("items(0)", x.items(0), 1 + 1 + 1 + 1 + 6 + 2 + 6 + 1);
        due("items(1)", x.items(1), 2 + 1 + 1 + 1 + 6 + 2 + 6 + 1);
        due("items(2)", x.items(2), -2);
        due("items(-1)", x.items(-1), -2);
        due("spans(0, 1)", x.spans(0, 1), 1);
        due("spans(0, 2)", x.spans(0, 2), 1);
        due("spans(1, 2)", x.spans(1, 2), 0);
        due("spans(0, 3)", x.spans(0, 3), -2);
        due("spans(-1, 1)", x.spans(-1, 1), -2);
        due("spans(2, 1)", x.spans(2, 1), -2);
        due("around(0, 2, 0, 1)", x.around(0, 2, 0, 1), 4);
        due("around(1, 2, 1, 1)", x.around(1, 2, 1, 1), 4);
        due("around(1, 2, 2, 2)", x.around(1, 2, 2, 2), 2);
        due("around(1, 2, 1, 2)", x.around(1, 2, 1, 2), 0);
        due("around(0, 2, -1, -1)", x.around(0, 2, -1, -1), -2);
        due("around(0, 2, 2, 1)", x.around(0, 2, 2, 1), -2);
        due("around(1, 2, 0, 1)", x.around(1, 2, 0, 1), -2);
        due("around(0, 1, 0, 2)", x.around(0, 1, 0, 2), -2);
        due("around(0, 3, 0, 2)", x.around(0, 3, 0, 2), -2);
        x.out(1, 1);
        due("around(1, 2, 2, 2), OUT", x.around(1, 2, 2, 2), 0);
        due("items(0), OUT", x.items(0), 1 + 1 + 2 + 6 + 1);
    }

    private void readsHeadsWays() {
        checks.about("promises 16, 17, 18, 19");
        CrossReader x = Checks.reader("tree (S .);tree (S a S*);tree (S S* a);", "aaa");
        due("reads()", x.reads(), 1);
        // b letters are before or behind at each level, guests into the host or into a guest
        due("heads()", x.heads(), 15);
        due("without(0)", x.without(0), 0);
        due("without(1)", x.without(1), x.without(2));
        due("without(3)", x.without(3), -2);
        due("without(-1)", x.without(-1), -2);
        CrossReader y = Checks.reader("tree (S .);tree (S a S*);", "aa");
        due("a GUEST in a GUEST alone", y.ways(), 1);
        y.marks(1, 0, 1);
        due("no GUEST in a GUEST", y.ways(), 0);
        due("heads()", y.heads(), 3);
        due("count(5) behind without", y.count(5), 0);
        y.out(1, 1);
        due("without one that is OUT", y.without(1), y.ways());
        Checks.say(y, "");
        due("no LETTERS", y.ways(), 1);
        due("heads()", y.heads(), 1);
        due("without(1)", y.without(1), 1);
        CrossReader z = Checks.reader(NESTS, "abcd");
        due("heads() of abcd", z.heads(), 5);
        Checks.say(z, "ab");
        due("heads() of ab", z.heads(), 5);
    }

    private void tooGreat() {
        checks.about("TOO_GREAT");
        String fives = "tree (S (S! S^ S^)(S! (S! S^ S^)(S! S^ a)));" + "tree (S .);".repeat(7);
        CrossReader x = Checks.reader(fives, "aaaaaaaa");
        due("count(0)", x.count(0), 8);
        due("ways()", x.ways(), -3);
        due("reads()", x.reads(), 1);
        due("steps(0)", x.steps(0), -3);
        due("steps(-1)", x.steps(-1), -2);
        due("step(0, 0, 9)", x.step(0, 0, 9), -3);
        due("whose(0, 9, 0)", x.whose(0, 9, 0), -3);
        due("arcs(0, 9)", x.arcs(0, 9), -3);
        due("grown(0, 9)", x.grown(0, 9), -3);
        due("tell(0)", x.tell(0), -3);
        due("tellWay(0)", x.tellWay(0), -3);
        due("tellWay(-1)", x.tellWay(-1), -2);
        due("count(9)", x.count(9), 0);
        due("over", x.over(0, 0, 1, 0, 8, NONE, NONE), -3);
        due("over a part", x.over(0, 0, 1, 7, 8, NONE, NONE), 16807);
        due("lengths(0)", x.lengths(0), 41);
        due("lengths(1)", x.lengths(1), 41);
        due("used(0)", x.used(0), 255);
        due("used(1)", x.used(1), 1);
        due("heads()", x.heads(), 511);
        due("without(0)", x.without(0), 0);
        due("without(1)", x.without(1), -3);
        lookAtNumbers(fives);
        String guest = "tree (S (S (S (S (S (S (S (S (S (S a S*))))))))));";
        lookAtNumbers("tree (S (S (S (S (S (S (S (S (S (S (S a)))))))))));" + guest + guest);
    }

    /** Numbers of ways up to the greatest and beyond, and the last ways of each. */
    private void lookAtNumbers(String grammar) {
        Reference r = new Reference();
        r.parse(grammar);
        r.sentence = "aaaaaaaa";
        for (int m = 1; m <= 8; m++) {
            CrossReader x = Checks.reader(grammar, r.sentence.substring(0, m));
            for (int tree = 0; tree < r.trees.size(); tree++) {
                java.math.BigInteger ways = r.countWays(m);
                boolean great = ways.compareTo(java.math.BigInteger.valueOf(1000000000000000L)) > 0;
                due("ways() of " + m, x.ways(), great ? -3 : ways.longValue());
                if (!great && ways.signum() > 0) {
                    long last = ways.longValue() - 1;
                    due("the last but one is another one", x.tellWay(last) > 0 && twoUnlike(x, last) ? 1 : 0, 1);
                    due("none behind the last", x.steps(last + 1), NONE);
                    due("a great k", x.steps(Long.MAX_VALUE), NONE);
                }
                int off = r.trees.size() - 1 - tree;
                x.out(off, 1);
                r.out[off] = true;
                r.forget();
            }
            java.util.Arrays.fill(r.out, false);
            r.forget();
        }
    }

    private boolean twoUnlike(CrossReader x, long last) {
        String one = Checks.told(x);
        if (last == 0) {
            return Checks.test(x, one) == 1;
        }
        x.tellWay(last - 1);
        String other = Checks.told(x);
        boolean testable = x.steps(last) <= 40 && x.steps(last - 1) <= 40;
        return !one.equals(other) && (!testable || Checks.test(x, one) == 1 && Checks.test(x, other) == 1);
    }

    private void lengthsAndUsed() {
        checks.about("promises 20, 34");
        CrossReader x = Checks.reader("tree (S (S! a) b);tree (S T^ b);tree (T a);tree (U a);tree (S a S*);tree (S! b);", "ab");
        // (S a b); (S T b) with (T a); b with a ahead of it is barred by its MARK
        due("ways()", x.ways(), 2);
        due("lengths(0)", x.lengths(0), 1);
        due("lengths(1)", x.lengths(1), 2);
        due("used(0)", x.used(0), 7);
        due("used(1)", x.used(1), 0);
        x.out(0, 1);
        due("lengths(0)", x.lengths(0), 2);
        due("used(1)", x.used(1), 6);
        due("used(0)", x.used(0), 6);
        x.out(2, 1);
        due("lengths(0)", x.lengths(0), NONE);
        due("lengths(1)", x.lengths(1), NONE);
        due("used(0)", x.used(0), 0);
        due("used(1)", x.used(1), 0);
        due("lengths(2)", x.lengths(2), -2);
        due("lengths(-1)", x.lengths(-1), -2);
        due("used(2)", x.used(2), -2);
        due("used(-1)", x.used(-1), -2);
        x.marks(5, 0, 0);
        due("lengths(0)", x.lengths(0), 2);
        due("used(1)", x.used(1), 48);
    }

    private void stepsOfWays() {
        checks.about("promises 21, 22, 23");
        CrossReader x = Checks.reader(PLACES, "xavv");
        // x goes ahead of the whole, a and nothing are its A, then S of the second v has nothing, and no S
        due("ways()", x.ways(), 0);
        Checks.grammar(x, PLACES + "tree (S! v);");
        due("ways()", x.ways(), 1);
        due("steps(0)", x.steps(0), 4);
        int[][] steps = {{0, NONE, NONE, 3}, {4, 0, 0, 0}, {1, 0, 1, 1}, {5, 0, 3, 2}};
        for (int i = 0; i < 4; i++) {
            for (int what = 0; what < 4; what++) {
                due("step(0, " + i + ", " + what + ")", x.step(0, i, what), steps[i][what]);
            }
            due("what 4", x.step(0, i, 4), -2);
            due("what -1", x.step(0, i, -1), -2);
        }
        due("STEP 4", x.step(0, 4, 0), -2);
        due("STEP -1", x.step(0, -1, 0), -2);
        int[][] whose = {{1, 1}, {2, 1}, {3, 1}, {0, 4}};
        for (int place = 0; place < 4; place++) {
            due("whose 0", x.whose(0, place, 0), whose[place][0]);
            due("whose 1", x.whose(0, place, 1), whose[place][1]);
            due("whose 2", x.whose(0, place, 2), -2);
            due("whose -1", x.whose(0, place, -1), -2);
        }
        due("place 4", x.whose(0, 4, 0), -2);
        due("place -1", x.whose(0, -1, 0), -2);
        due("steps(-1)", x.steps(-1), -2);
        due("steps(1)", x.steps(1), NONE);
        due("steps(Long.MIN_VALUE)", x.steps(Long.MIN_VALUE), -2);
        due("step(1, 9, 9): NONE first", x.step(1, 9, 9), NONE);
        due("step(-1, 9, 9)", x.step(-1, 9, 9), -2);
        due("whose(1, 9, 9): NONE first", x.whose(1, 9, 9), NONE);
        due("whose(-1, 0, 0)", x.whose(-1, 0, 0), -2);
        due("a great k", x.steps(1L << 32), NONE);
    }

    private void orderOfWays() {
        checks.about("the ORDER of WAYS");
        CrossReader x = Checks.reader("tree (S A^ (T A^ z));tree (S B^ (T B^ z));tree (A a);tree (A a a);tree (B a);"
            + "tree (B a a);tree (B .);tree (S! a S*);", "aaaz");
        lookAtOrder(x, "0;2 0 1;3 0 3;", "0;3 0 1;2 0 3;", "0;7 0 0;2 0 1;2 0 3;", "1;4 0 1;5 0 3;", "1;5 0 1;4 0 3;",
            "1;7 0 0;6 0 1;5 0 3;", "1;7 0 0;4 0 1;4 0 3;", "1;7 0 0;5 0 1;6 0 3;");
        checks.about("the ORDER: by p, then by q");
        CrossReader y = Checks.reader("tree (S T^ (Z z T^));tree (T .);tree (T a);tree (S! T^ (S! (S! S* T^) w));", "azaw");
        lookAtOrder(y, "0;3 0 0;1 1 1;2 1 5;2 0 1;1 0 4;", "0;3 0 0;1 1 1;1 1 5;2 0 1;2 0 4;",
            "0;3 0 0;2 1 1;2 1 5;1 0 1;1 0 4;", "0;3 0 0;2 1 1;1 1 5;1 0 1;2 0 4;");
        checks.about("the ORDER: the GUEST's own, then the BRANCH's below");
        CrossReader g = Checks.reader("tree (S T^ z);tree (T .);tree (T .);tree (S! (S! T^ w) S*);", "wz");
        lookAtOrder(g, "0;3 0 0;1 1 2;1 0 1;", "0;3 0 0;1 1 2;2 0 1;", "0;3 0 0;2 1 2;1 0 1;", "0;3 0 0;2 1 2;2 0 1;");
        checks.about("the ORDER: the first CHILD's, then the other one's");
        CrossReader z = Checks.reader("tree (S (T+ .)(U+ .));tree (T! T* a);tree (T! a T*);tree (U! U* a);tree (U! a U*);", "aa");
        lookAtOrder(z, "0;1 0 1;3 0 3;", "0;1 0 1;4 0 3;", "0;2 0 1;3 0 3;", "0;2 0 1;4 0 3;");
        checks.about("the ORDER: without a GUEST first");
        CrossReader w = Checks.reader("tree (S (S a));tree (S! b S*);", "ba");
        lookAtOrder(w, "0;1 0 1;", "0;1 0 0;");
        String mixed = "tree (S (S! a)(S .));tree (S a S*);tree (S! S* a);";
        lookAtOrderByReference(Checks.reader(mixed, "aaa"), mixed, "aaa");
    }

    private void lookAtOrder(CrossReader x, String... ways) {
        due("ways()", x.ways(), ways.length);
        for (int k = 0; k < ways.length; k++) {
            x.tellWay(k);
            checks.due("tellWay(" + k + ")", Checks.told(x), ways[k]);
        }
        for (int k = ways.length - 1; k >= 0; k--) {
            x.tellWay(k);
            checks.due("tellWay(" + k + "), backwards", Checks.told(x), ways[k]);
        }
    }

    private void lookAtOrderByReference(CrossReader x, String grammar, String sentence) {
        Reference r = new Reference();
        r.parse(grammar);
        r.sentence = sentence;
        java.util.List<Reference.Step> ways = r.listWays();
        due("ways()", x.ways(), ways.size());
        for (int k = 0; k < ways.size(); k++) {
            x.tell(k);
            checks.due("tell(" + k + ")", Checks.told(x), r.tell(ways.get(k)).text);
        }
    }

    private void arcsAndGrown() {
        checks.about("promises 24, 25");
        String heads = "tree (S A^ (T B^ (U C^ (V D^ h))));tree (A a);tree (B b F^);tree (C c);tree (D d);tree (F f);";
        CrossReader z = Checks.reader(heads, "abfcdh");
        due("ways()", z.ways(), 1);
        due("arcs(0, 0)", z.arcs(0, 0), 5);
        due("arcs(0, 1)", z.arcs(0, 1), 0);
        due("arcs(0, 2)", z.arcs(0, 2), 5);
        due("arcs(0, 3)", z.arcs(0, 3), -2);
        due("arcs(0, -1)", z.arcs(0, -1), -2);
        due("arcs(1, 3)", z.arcs(1, 3), NONE);
        due("arcs(-1, 0)", z.arcs(-1, 0), -2);
        due("grown(0, 0)", z.grown(0, 0), 5);
        due("grown(0, 1)", z.grown(0, 1), 9);
        due("grown(0, 2)", z.grown(0, 2), -2);
        due("grown(0, -1)", z.grown(0, -1), -2);
        due("grown(1, 2)", z.grown(1, 2), NONE);
        due("grown(-1, 0)", z.grown(-1, 0), -2);
        crossing();
    }

    /** A verb cluster: each guest's noun is ahead of its foot, its verb behind it, and they nest or cross. */
    private void crossing() {
        CrossReader x = Checks.reader("tree (S! (T v) z);tree (T! (T! N^ T*) w);tree (N n);tree (N! m N^);", "nvwz");
        due("ways()", x.ways(), 1);
        due("steps(0)", x.steps(0), 3);
        // HEADS: v at 1, w at 2, n at 0: arcs 2-1 and 0-2 share a HEAD
        due("arcs(0, 0)", x.arcs(0, 0), 2);
        due("arcs(0, 1)", x.arcs(0, 1), 0);
        due("arcs(0, 2)", x.arcs(0, 2), 2);
        CrossReader y = Checks.reader("tree (S! (T v)(U u));tree (T! (T! N^ T*) w);tree (N n);tree (U! p U*);", "nvwpu");
        // HEADS: v 1; w 2 into 1; n 0 into 2; p 3 into 1: none cross, 0-2 and 3-1 do
        due("ways()", y.ways(), 1);
        due("arcs(0, 0)", y.arcs(0, 0), 3);
        due("arcs(0, 1)", y.arcs(0, 1), 1);
        due("arcs(0, 2)", y.arcs(0, 2), 2);
        CrossReader w = Checks.reader("tree (S .);tree (S a S*);tree (S S* a);", "a");
        due("no ARC of a STEP put into one without a HEAD", w.arcs(0, 0), 0);
        due("no longest", w.arcs(0, 2), 0);
        due("grown", w.grown(0, 0), 2);
    }

    private void told() {
        checks.about("promises 26, 27, 28");
        CrossReader x = Checks.reader(CROSS, "abyx");
        due("octet(0)", x.octet(0), NONE);
        due("not read", x.tell(0), NONE);
        due("count(9)", x.count(9), 0);
        Checks.say(x, "abxy");
        due("reads()", x.reads(), 1);
        due("tell(0)", x.tell(0), 29);
        checks.due("told", Checks.told(x), "(S a (S b (S (S (S .) x) y)))");
        due("octet(29)", x.octet(29), NONE);
        due("octet(-1)", x.octet(-1), NONE);
        due("tell(1)", x.tell(1), NONE);
        due("tell(-1)", x.tell(-1), -2);
        due("count(9) behind refused ones", x.count(9), 29);
        due("tellWay(0)", x.tellWay(0), 14);
        checks.due("told", Checks.told(x), "0;1 0 0;2 1 2;");
        due("tellWay(1)", x.tellWay(1), NONE);
        due("tellWay(-1)", x.tellWay(-1), -2);
        Checks.grammar(x, "tree (T q);");
        Checks.say(x, "q");
        checks.due("whatever came since", Checks.told(x), "0;1 0 0;2 1 2;");
        due("count(9)", x.count(9), 14);
        due("tell(0)", x.tell(0), 5);
        checks.due("told", Checks.told(x), "(T q)");
        due("octet(5): what was longer is gone", x.octet(5), NONE);
    }

    private void testTexts() {
        checks.about("promise 29, texts");
        CrossReader x = Checks.reader(CROSS, "abxy");
        String[] none = {"", " ", ";", "0", "0 ;1", "0;1;", "0;1 0;", "0;1 0 0 0;", "0 0;", "0 0 0;", "0;;", "0;1 0 0",
            "a;", "0;1 0 x;", "-1;", "0;1,0,0;", "0;\t", "0 0 0;1 0 0;", ";0;"};
        for (String text : none) {
            due("test() of [" + text + "]", Checks.test(x, text), -4);
            due("the tape is empty", x.count(8), 0);
        }
        due("OUT stays", x.count(9), 0);
        due("blanks", Checks.test(x, " 0 \n;\n1 0 0;2  1\n2 ; "), 1);
        checks.due("told", Checks.told(x), "abxy");
        due("no blanks ahead of ;, more digits", Checks.test(x, "000;01 00 000;0002 1 2;"), 1);
        due("of another one", Checks.test(x, "0;2 0 0;1 1 2;"), 0);
        checks.due("told", Checks.told(x), "bayx");
        due("of none", Checks.test(x, "0;"), 0);
        due("told nothing", x.count(9), 0);
        Checks.test(x, "0;2 0 0;");
        checks.due("told", Checks.told(x), "by");
        due("-4", Checks.test(x, "0;2 0"), -4);
        due("-101", Checks.test(x, "0;0 0 0;"), -101);
        checks.due("OUT stays", Checks.told(x), "by");
        due("a great number", Checks.test(x, "0;99999999999999999999 0 0;"), -101);
        due("4294967296 is no 0", Checks.test(x, "4294967296;"), -100);
        due("as STEP", Checks.test(x, "0;1 4294967296 0;"), -101);
        due("as NODE", Checks.test(x, "0;1 0 4294967296;"), -101);
        Checks.grammar(x, "tree (S .);tree (S a (S! b S*));");
        StringBuilder forty = new StringBuilder("0;1 0 0;");
        for (int i = 2; i < 40; i++) {
            forty.append("1 ").append(i - 1).append(" 0;");
        }
        due("40 STEPS", Checks.test(x, forty.toString()), 0);
        due("of 78 LETTERS", x.count(9), 78);
        due("41 STEPS", Checks.test(x, forty + "1 39 0;"), -4);
        due("the 41st can't be there: -4 ahead", Checks.test(x, forty + "7 7 7;"), -4);
        due("of 78 LETTERS still", x.count(9), 78);
    }

    private void testRefusals() {
        checks.about("promise 29, refusals");
        String grammar = "tree (S A^ (S+ A^ s));tree (A a);tree (A .);tree (S! x S*);tree (B b);tree (A+ y A*);tree (A (A! z));";
        CrossReader x = Checks.reader(grammar, "xas");
        due("a WAY", Checks.test(x, "0;2 0 1;3 0 2;1 0 3;"), 1);
        checks.due("told", Checks.told(x), "xas");
        due("whatever its order", Checks.test(x, "0;3 0 2;1 0 3;2 0 1;"), 1);
        due("no such TREE", Checks.test(x, "7;"), -100);
        due("no HOST", Checks.test(x, "3;"), -100);
        due("another LABEL than START", Checks.test(x, "1;"), -100);
        due("no such TREE", Checks.test(x, "0;7 0 1;"), -101);
        due("no STEP ahead of it", Checks.test(x, "0;1 1 1;"), -101);
        due("a later STEP", Checks.test(x, "0;1 2 1;3 0 2;"), -101);
        due("no such NODE", Checks.test(x, "0;1 0 5;"), -101);
        due("another LABEL", Checks.test(x, "0;4 0 1;"), -101);
        due("a HOST into a BRANCH", Checks.test(x, "0;0 0 2;"), -101);
        due("a GUEST into a PLACE", Checks.test(x, "0;5 0 1;"), -101);
        due("a LETTER", Checks.test(x, "0;1 0 4;"), -101);
        due("a FOOT", Checks.test(x, "0;3 0 2;3 1 2;"), -102);
        due("MARK 1", Checks.test(x, "0;3 0 2;3 1 0;"), -102);
        due("MARK 1 of a HOST's BRANCH", Checks.test(x, "0;6 0 1;5 1 1;"), -102);
        due("one is there already", Checks.test(x, "0;3 0 2;3 0 2;"), -102);
        due("one is there already, a HOST", Checks.test(x, "0;1 0 1;2 0 1;"), -102);
        due("-100 of a later STEP ahead of -200 of STEP 0", Checks.test(x, "0;1 0 1;9 0 3;"), -102);
        due("a PLACE without a HOST", Checks.test(x, "0;1 0 1;"), -200);
        due("-200 ahead of -300", Checks.test(x, "0;1 0 1;5 1 0;"), -200);
        due("a MARK 2", Checks.test(x, "0;1 0 1;1 0 3;"), -300);
        due("a MARK 2 of another STEP", Checks.test(x, "0;3 0 2;1 0 1;5 2 0;1 0 3;"), -303);
        due("OUT stays", x.count(9), 3);
        CrossReader y = Checks.reader("tree (S A^ s);tree (A a A^);tree (A .);", "s");
        due("the first with a PLACE without a HOST", Checks.test(y, "0;1 0 1;1 1 2;"), -202);
        due("of another one", Checks.test(y, "0;1 0 1;1 1 2;2 2 2;"), 0);
        checks.due("told", Checks.told(y), "aas");
        x.out(3, 1);
        due("one that is OUT", Checks.test(x, "0;3 0 2;1 0 3;2 0 1;"), -101);
        x.out(3, 0);
        x.out(0, 1);
        due("STEP 0 that is OUT", Checks.test(x, "0;3 0 2;1 0 3;2 0 1;"), -100);
        due("no TREES", Checks.test(new CrossReader(), "0;"), -100);
    }

    private void mending() {
        checks.about("promises 30, 31");
        CrossReader x = Checks.reader(CROSS, "abxx");
        due("mends()", x.mends(), 2);
        due("mend(0)", x.mend(0), 100);
        due("mend(1)", x.mend(1), 300 + 'y' - 'a');
        due("mend(2)", x.mend(2), NONE);
        due("mend(-1)", x.mend(-1), -2);
        due("mend of the greatest", x.mend(Integer.MAX_VALUE), NONE);
        Checks.say(x, "abxy");
        due("a SENTENCE that is READ, changed: none", x.mends(), 0);
        Checks.say(x, "q");
        due("an unknown LETTER", x.mends(), 0);
        Checks.grammar(x, "tree (S a);tree (S b);tree (S! c);tree (T q);");
        due("to others of all TREES", x.mends(), 3);
        due("mend(2)", x.mend(2), 2);
        x.out(1, 1);
        due("not by one that is OUT", x.mends(), 2);
        due("mend(1)", x.mend(1), 2);
        Checks.say(x, "a");
        due("not to itself", x.mends(), 1);
        due("mend(0)", x.mend(0), 2);
        Checks.say(x, "");
        due("no LETTERS", x.mends(), 0);
        due("mend(0)", x.mend(0), NONE);
        mendingMany();
    }

    /** More changes than one fill of a chart looks at. */
    private void mendingMany() {
        CrossReader x = Checks.reader("tree (S a S*);tree (S b);tree (S c S*);tree (S d S*);tree (S e S*);tree (S f S*);"
            + "tree (S g (S S* h));tree (S (S i j) k);", "aaaaaaaa");
        due("not read", x.reads(), 0);
        due("the last one to b alone", x.mends(), 1);
        due("mend(0)", x.mend(0), 701);
        Checks.say(x, "aaaaaaab");
        // seven places to c, d, e, f each
        due("mends()", x.mends(), 28);
        due("mend(27)", x.mend(27), 605);
        due("mend(4)", x.mend(4), 102);
    }

    private void shortSentences() {
        checks.about("promises 32, 33");
        CrossReader x = Checks.reader(CROSS, "");
        due("sentences(0)", x.sentences(0), 1);
        due("sentence(0, 0)", x.sentence(0, 0), 0);
        due("sentence(0, 1)", x.sentence(0, 1), NONE);
        due("sentences(1)", x.sentences(1), 0);
        due("sentence(1, 0)", x.sentence(1, 0), NONE);
        due("sentences(2)", x.sentences(2), 2);
        due("sentence(2, 0): ax", x.sentence(2, 0), 27 + 24);
        due("sentence(2, 1): by", x.sentence(2, 1), 2 * 27 + 25);
        due("sentences(3)", x.sentences(3), 0);
        due("sentences(4)", x.sentences(4), 4);
        due("sentence(4, 0): aaxx", x.sentence(4, 0), ((27 + 1) * 27 + 24) * 27 + 24);
        due("sentence(4, 1): abxy", x.sentence(4, 1), ((27 + 2) * 27 + 24) * 27 + 25);
        due("sentence(4, 2): bayx", x.sentence(4, 2), ((2 * 27 + 1) * 27 + 25) * 27 + 24);
        due("sentence(4, 3): bbyy", x.sentence(4, 3), ((2 * 27 + 2) * 27 + 25) * 27 + 25);
        due("sentence(4, 4)", x.sentence(4, 4), NONE);
        due("sentences(5)", x.sentences(5), -2);
        due("sentences(-1)", x.sentences(-1), -2);
        due("sentence(5, 0)", x.sentence(5, 0), -2);
        due("sentence(-1, 0)", x.sentence(-1, 0), -2);
        due("sentence(4, -1)", x.sentence(4, -1), -2);
        x.out(1, 1);
        due("sentences(4), one OUT", x.sentences(4), 1);
        Checks.say(x, "ab");
        due("sentences(4) behind say()", x.sentences(4), 1);
        CrossReader y = Checks.reader("tree (S a S*);tree (S b);tree (S c d);tree (S e);", "");
        due("five LETTERS", y.sentences(1), -5);
        due("five LETTERS", y.sentence(1, 0), -5);
        due("-2 ahead of -5", y.sentences(5), -2);
        due("-2 ahead of -5", y.sentence(1, -1), -2);
        y.out(3, 1);
        due("OUT ones, too", y.sentences(1), -5);
        CrossReader z = Checks.reader("tree (S .);tree (S a S*);tree (S b S*);tree (S! c S*);tree (S! d S*);", "");
        due("sentences(0)", z.sentences(0), 1);
        due("sentences(1)", z.sentences(1), 4);
        due("sentence(1, 3)", z.sentence(1, 3), 4);
        z.marks(3, 0, 0);
        z.marks(4, 0, 0);
        due("all 256", z.sentences(4), 256);
        due("dddd", z.sentence(4, 255), ((4 * 27 + 4) * 27 + 4) * 27 + 4);
        due("baaa", z.sentence(4, 64), ((2 * 27 + 1) * 27 + 1) * 27 + 1);
    }

    /** 41 STEPS, the most that eight LETTERS can have. */
    private void largestWays() {
        checks.about("the largest WAYS");
        String grammar = "tree (S (S! S^ S^)(S! (S! S^ S^)(S! S^ a)));tree (S (S (S (S (S (S (S (S (S (S .))))))))));";
        CrossReader x = Checks.reader(grammar, "aaaaaaaa");
        due("count(1)", x.count(1), 22);
        due("lengths(1)", x.lengths(1), 41);
        due("lengths(0)", x.lengths(0), 41);
        due("steps(0)", x.steps(0), 41);
        long ways = x.ways();
        due("many", ways > 1000 ? 1 : 0, 1);
        due("tell(0)", x.tell(0), Checks.told(x).length());
        due("BRANCHES", x.grown(ways - 1, 1), 8 * 5 + 33 * 10);
        int length = x.tell(ways - 1);
        due("bytes", length, x.count(9));
        // ( LABEL ) and a blank of each BRANCH, a sign and a blank of each LETTER, EMPTY one; no blank ahead of the first
        due("bytes", length, 4 * (8 * 5 + 33 * 10) + 2 * (8 + 33) - 1);
        due("the last )", x.octet(length - 1), ')');
        due("tellWay", x.tellWay(ways - 1), x.count(9));
        due("41 STEPS are no text of 40", Checks.test(x, Checks.told(x)), -4);
        due("none behind the last", x.tell(ways), NONE);
    }
}
