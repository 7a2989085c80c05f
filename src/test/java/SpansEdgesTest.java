import java.math.BigInteger;

/** The edges that the document names of spans, gaps and numbers of ways: terms II, promises 12 to 20 and 34. */
public final class SpansEdgesTest {
    private static final int NONE = CrossReader.NONE;
    private static final int LEAST = Integer.MIN_VALUE;
    private static final int GREATEST = Integer.MAX_VALUE;
    private static final long MOST = 1000000000000000L;

    private final Checks checks = new Checks();

    public static void main(String[] args) {
        SpansEdgesTest test = new SpansEdgesTest();
        test.lettersOver();
        test.emptyOnesOver();
        test.feetOver();
        test.placesOver();
        test.branchesBelow();
        test.branchesAbove();
        test.outTrees();
        test.overRefused();
        test.overOut();
        test.tooGreat();
        test.closeToTooGreat();
        test.justNotTooGreat();
        test.tooGreatByProducts();
        test.itemsEdges();
        test.spansEdges();
        test.aroundEdges();
        test.readEdges();
        test.headsEdges();
        test.withoutEdges();
        test.lengthsEdges();
        test.usedEdges();
        test.checks.finish();
    }

    private void due(String call, long got, long want) {
        checks.due(call, got, want);
    }

    /** In both halves alike, as of all others than BRANCHES. */
    private void alike(CrossReader x, int tree, int node, int[] span, long want) {
        for (int half = 0; half < 2; half++) {
            due("over(" + tree + ", " + node + ", " + half + ", " + span[0] + ", " + span[1] + ", " + span[2] + ", " + span[3] + ")",
                x.over(tree, node, half, span[0], span[1], span[2], span[3]), want);
        }
    }

    private static int[] span(int i, int j) {
        return new int[] {i, j, NONE, NONE};
    }

    private static int[] span(int i, int j, int p, int q) {
        return new int[] {i, j, p, q};
    }

    // ---- terms II

    private void lettersOver() {
        checks.about("II: a LETTER over itself alone");
        CrossReader x = Checks.reader("tree(S a(S z z));", "aaz");
        for (int i = 0; i <= 3; i++) {
            for (int j = i; j <= 3; j++) {
                alike(x, 0, 1, span(i, j), j == i + 1 && i < 2 ? 1 : 0);
                alike(x, 0, 3, span(i, j), i == 2 && j == 3 ? 1 : 0);
            }
        }
    }

    private void emptyOnesOver() {
        checks.about("II: an EMPTY one over i .. i");
        CrossReader x = Checks.reader("tree(S .);", "aaaaaaaa");
        for (int i = 0; i <= 8; i++) {
            for (int j = i; j <= 8; j++) {
                alike(x, 0, 1, span(i, j), i == j ? 1 : 0);
            }
        }
        Checks.say(x, "");
        alike(x, 0, 1, span(0, 0), 1);
    }

    private void feetOver() {
        checks.about("II: a FOOT over each SPAN, that being its GAP");
        CrossReader x = Checks.reader("tree(S a S*);", "bab");
        for (int i = 0; i <= 3; i++) {
            for (int j = i; j <= 3; j++) {
                for (int p = i; p <= j; p++) {
                    for (int q = p; q <= j; q++) {
                        alike(x, 0, 2, span(i, j, p, q), p == i && q == j ? 1 : 0);
                    }
                }
            }
        }
        checks.about("II: around a GAP, if it is above a FOOT or one, without any, if not");
        alike(x, 0, 2, span(0, 1), -2);
        alike(x, 0, 0, span(0, 1), -2);
        alike(x, 0, 1, span(1, 2, 1, 1), -2);
        alike(x, 0, 1, span(1, 2), 1);
        alike(x, 0, 0, span(1, 2, 2, 2), 1);
    }

    private void placesOver() {
        checks.about("II: a PLACE over what NODE 0 of a HOST of its LABEL is OVER above");
        CrossReader x = Checks.reader("tree(S A^ s);tree(A a);tree(A a);tree(A+ .);tree(A! b A*);tree(B a);", "ba");
        alike(x, 0, 1, span(1, 2), 2);
        alike(x, 0, 1, span(0, 2), 2);
        alike(x, 0, 1, span(0, 1), 1);
        alike(x, 0, 1, span(0, 0), 0);
        x.marks(3, 0, 0);
        alike(x, 0, 1, span(0, 0), 1);
        checks.about("II: a PLACE without a HOST of its LABEL");
        CrossReader y = Checks.reader("tree(S A^ s);tree(A a A*);", "as");
        alike(y, 0, 1, span(0, 1), 0);
        alike(y, 0, 1, span(0, 0), 0);
    }

    private void branchesBelow() {
        checks.about("II: a BRANCH below: its CHILD's SPAN above, or both, one behind the other");
        CrossReader x = Checks.reader("tree(S(T(U a))(V . b));tree(U! c U*);tree(T(T d T*)(T .));", "cab");
        due("its CHILD's above", x.over(0, 1, 0, 0, 2, NONE, NONE), 1);
        due("its CHILD's below is less", x.over(0, 2, 0, 0, 2, NONE, NONE), 0);
        due("both, the one behind the other", x.over(0, 0, 0, 0, 3, NONE, NONE), 1);
        due("not one alone", x.over(0, 0, 0, 0, 2, NONE, NONE), 0);
        due("not apart", x.over(0, 0, 0, 1, 3, NONE, NONE), 1);
        due("an EMPTY one and a LETTER", x.over(0, 4, 0, 2, 3, NONE, NONE), 1);
        checks.about("II: with the GAP of that which has one");
        Checks.say(x, "dab");
        due("the first one's", x.over(2, 0, 0, 0, 3, 1, 3), 1);
        due("the first one's", x.over(2, 0, 0, 0, 2, 1, 2), 1);
        due("another GAP", x.over(2, 0, 0, 0, 3, 1, 2), 0);
        CrossReader y = Checks.reader("tree(S .);tree(S(S .)(S S* d));", "abd");
        due("the second one's", y.over(1, 0, 0, 0, 3, 0, 2), 1);
        due("the second one's, empty", y.over(1, 0, 0, 2, 3, 2, 2), 1);
        due("another GAP", y.over(1, 0, 0, 0, 3, 1, 2), 0);
    }

    private void branchesAbove() {
        checks.about("II: as it is below (not with MARK 2); or (not with MARK 1) around what it is OVER below");
        CrossReader x = Checks.reader("tree(S a);tree(S! b S*);tree(T! b T*);", "ba");
        long[][] above = {{1, 1}, {1, 0}, {0, 1}};
        for (int mark = 0; mark < 3; mark++) {
            x.marks(0, 0, mark);
            due("bare, MARK " + mark, x.over(0, 0, 1, 1, 2, NONE, NONE), above[mark][0]);
            due("with a GUEST, MARK " + mark, x.over(0, 0, 1, 0, 2, NONE, NONE), above[mark][1]);
            due("below, MARK " + mark, x.over(0, 0, 0, 1, 2, NONE, NONE), 1);
            due("below, with a GUEST, MARK " + mark, x.over(0, 0, 0, 0, 2, NONE, NONE), 0);
        }
        checks.about("II: a GUEST's BRANCH above, with its GAP");
        CrossReader y = Checks.reader("tree(S a);tree(S b S*);", "bba");
        for (int mark = 0; mark < 3; mark++) {
            y.marks(1, 0, mark);
            due("bare, MARK " + mark, y.over(1, 0, 1, 1, 2, 2, 2), mark == 2 ? 0 : 1);
            due("bare, around a, MARK " + mark, y.over(1, 0, 1, 1, 3, 2, 3), mark == 2 ? 0 : 1);
            due("with itself, MARK " + mark, y.over(1, 0, 1, 0, 3, 2, 3), mark == 0 ? 1 : 0);
            due("with itself, MARK " + mark + ", another GAP", y.over(1, 0, 1, 0, 3, 2, 2), 0);
        }
        checks.about("II: around just that");
        CrossReader z = Checks.reader("tree(S(S! a));tree(S!(S! b S*)b);", "bab");
        due("all", z.over(0, 0, 1, 0, 3, NONE, NONE), 1);
        due("around(0, 3, 1, 2)", z.around(0, 3, 1, 2), 2);
        due("around(0, 3, 1, 1)", z.around(0, 3, 1, 1), 0);
        due("around(0, 3, 2, 2)", z.around(0, 3, 2, 2), 0);
        due("ahead of it alone", z.over(0, 0, 1, 0, 2, NONE, NONE), 0);
    }

    private void outTrees() {
        checks.about("II: TREES that are OUT are not there");
        CrossReader x = Checks.reader("tree(S A^ s);tree(A a);tree(A b A*);tree(S! t S*);", "tbas");
        due("all", x.ways(), 1);
        for (int tree = 0; tree < 4; tree++) {
            x.out(tree, 1);
            due("ways() without TREE " + tree, x.ways(), 0);
            due("reads()", x.reads(), 0);
            x.out(tree, 0);
            due("and with it", x.ways(), 1);
        }
        x.out(2, 1);
        due("a PLACE", x.over(0, 1, 1, 1, 3, NONE, NONE), 0);
        due("a HOST, bare", x.over(1, 0, 1, 2, 3, NONE, NONE), 1);
        due("a HOST, with one that is OUT", x.over(1, 0, 1, 1, 3, NONE, NONE), 0);
        x.out(1, 1);
        due("a PLACE", x.over(0, 1, 1, 2, 3, NONE, NONE), 0);
        checks.about("II: one of two GUESTS of a LABEL is OUT");
        CrossReader y = Checks.reader("tree(S .);tree(S! a S*);tree(S! a S*);tree(S! S* a);", "a");
        due("three", y.ways(), 3);
        y.out(1, 1);
        due("two", y.ways(), 2);
        due("the first", y.step(0, 1, 0), 2);
        y.out(2, 1);
        due("one", y.ways(), 1);
        due("the last", y.step(0, 1, 0), 3);
        y.out(3, 1);
        due("none", y.ways(), 0);
        y.out(1, 0);
        due("one", y.ways(), 1);
    }

    // ---- promise 12

    private void overRefused() {
        checks.about("12: -2: there are none such");
        CrossReader x = Checks.reader("tree(S!(S a)b);tree(S a S*);", "aab");
        int[] host = {0, 0, 1, 0, 3, NONE, NONE};
        int[] guest = {1, 0, 1, 0, 3, 1, 3};
        due("a HOST", over(x, host), 1);
        due("a GUEST", over(x, guest), 1);
        int[][] wrong = {{-1, 2, 8, 32, LEAST, GREATEST}, {-1, 4, 12, 32, LEAST, GREATEST}, {-1, 2, LEAST, GREATEST},
            {-1, 4, LEAST, GREATEST}, {-1, 4, LEAST, GREATEST}, {0, 1, 3, -2, LEAST, GREATEST}, {0, 1, 3, -2, LEAST, GREATEST}};
        int[][] wrongGap = {{}, {3}, {}, {2, -1}, {0, 2, 4}, {-1, 4, LEAST, GREATEST}, {0, -1, 4, LEAST, GREATEST}};
        for (int which = 0; which < 7; which++) {
            for (int value : wrong[which]) {
                int[] call = host.clone();
                call[which] = value;
                due("of a HOST, argument " + which + " as " + value, over(x, call), -2);
            }
            for (int value : wrongGap[which]) {
                int[] call = guest.clone();
                call[which] = value;
                due("of a GUEST, argument " + which + " as " + value, over(x, call), -2);
            }
        }
        checks.about("12: 0 not above i, i not above p, p not above q, q not above j");
        int[][] good = {{0, 0, 0, 0}, {3, 3, 3, 3}, {0, 3, 0, 3}, {0, 3, 0, 0}, {0, 3, 3, 3}, {1, 2, 1, 1}, {1, 2, 2, 2}};
        for (int[] one : good) {
            due("one that can be", x.over(1, 0, 0, one[0], one[1], one[2], one[3]) >= 0 ? 1 : 0, 1);
        }
        int[][] bad = {{-1, 3, 0, 1}, {1, 3, 0, 3}, {0, 3, 2, 1}, {0, 2, 0, 3}, {0, 4, 0, 4}, {0, 4, 0, 1}, {2, 1, 1, 2},
            {2, 1, 2, 1}, {-1, -1, -1, -1}, {4, 4, 4, 4}};
        for (int[] one : bad) {
            alike(x, 1, 0, one, -2);
            alike(x, 1, 2, one, -2);
        }
        checks.about("12: a GAP, none, as it can't be");
        due("a FOOT without", x.over(1, 2, 0, 0, 3, NONE, NONE), -2);
        due("a GUEST's LETTER with", x.over(1, 1, 0, 0, 1, 0, 0), -2);
        due("a GUEST's LETTER without", x.over(1, 1, 0, 0, 1, NONE, NONE), 1);
        due("a HOST with", x.over(0, 0, 1, 0, 3, 1, 2), -2);
        due("a HOST with an empty one", x.over(0, 0, 1, 0, 3, 3, 3), -2);
        due("p NONE alone", x.over(0, 0, 1, 0, 3, NONE, 3), -2);
        due("q NONE alone", x.over(0, 0, 1, 0, 3, 3, NONE), -2);
    }

    private static long over(CrossReader x, int[] of) {
        return x.over(of[0], of[1], of[2], of[3], of[4], of[5], of[6]);
    }

    private void overOut() {
        checks.about("12: 0 of one that is OUT");
        CrossReader x = Checks.reader("tree(S a);tree(S b S*);tree(S .);", "ba");
        due("there", x.over(0, 1, 0, 1, 2, NONE, NONE), 1);
        x.out(0, 1);
        x.out(1, 1);
        x.out(2, 1);
        alike(x, 0, 0, span(1, 2), 0);
        alike(x, 0, 1, span(1, 2), 0);
        alike(x, 1, 0, span(0, 2, 1, 2), 0);
        alike(x, 1, 1, span(0, 1), 0);
        alike(x, 1, 2, span(0, 2, 0, 2), 0);
        alike(x, 2, 1, span(0, 0), 0);
        alike(x, 0, 0, span(0, 3), -2);
        alike(x, 0, 2, span(0, 1), -2);
        alike(x, 1, 0, span(0, 1), -2);
        due("items(0)", x.items(0), 0);
        due("items(1)", x.items(1), 0);
    }

    // ---- TOO_GREAT

    private void tooGreat() {
        checks.about("TOO_GREAT, wherever WAYS are counted");
        String fives = "tree(S(S! S^ S^)(S!(S! S^ S^)(S! S^ a)));" + "tree(S .);".repeat(7);
        CrossReader x = Checks.reader(fives, "aaaaaaaa");
        due("ways()", x.ways(), -3);
        due("without(0)", x.without(0), 0);
        due("without(7)", x.without(7), -3);
        due("over, above", x.over(0, 0, 1, 0, 8, NONE, NONE), -3);
        due("over, below", x.over(0, 0, 0, 0, 8, NONE, NONE), -3);
        due("over a PLACE", x.over(0, 2, 1, 0, 8, NONE, NONE), -3);
        due("over another SPAN", x.over(0, 0, 1, 0, 1, NONE, NONE), 16807);
        due("over an empty SPAN", x.over(0, 2, 1, 4, 4, NONE, NONE), 7);
        due("reads()", x.reads(), 1);
        due("heads()", x.heads(), 511);
        due("spans(0, 8)", x.spans(0, 8), 1);
        due("lengths(0)", x.lengths(0), 41);
        due("used(0)", x.used(0), 255);
        due("steps(0)", x.steps(0), -3);
        due("one of them OUT", x.out(7, 1), 1);
        due("ways()", x.ways(), -3);
        Checks.say(x, "a");
        due("6 to the fifth", x.ways(), 7776);
    }

    /** Numbers near the greatest that is told, on both sides of it: 230731606 below, 654196868 above. */
    private void closeToTooGreat() {
        checks.about("TOO_GREAT: more than 1000000000000000");
        String ends = "tree(A! .);tree(A! .);tree(S! a S*);tree(S(S A^ A^)(S!(S! A^ A^)(S a S*)));";
        String less = "tree(S(S A^ a));tree(S(S A^ A^)(S!(S A^ A^)a));tree(S .);tree(S(S(S(S(S a S*)))));" + ends;
        String more = "tree(S(S(S a a)));tree(S(S(S A^ a)));tree(S .);tree(S(S(S(S(S(S(S a S*)))))));" + ends;
        long told = 999999769268394L;
        CrossReader x = Checks.reader(less, "aaaaaaaa");
        lookAtNumber(less, BigInteger.valueOf(told));
        due("ways()", x.ways(), told);
        due("of its HOSTS", x.over(0, 0, 1, 0, 8, NONE, NONE), 27765551937816L);
        due("of its HOSTS", x.over(1, 0, 1, 0, 8, NONE, NONE), 446036180965344L);
        due("of its HOSTS", x.over(2, 0, 1, 0, 8, NONE, NONE), 526198036365234L);
        due("without(0)", x.without(0), told - 27765551937816L);
        due("the last one is there", x.steps(told - 1) > 0 ? 1 : 0, 1);
        due("no more", x.steps(told), NONE);
        due("no more", x.steps(MOST), NONE);
        CrossReader y = Checks.reader(more, "aaaaaaaa");
        lookAtNumber(more, BigInteger.valueOf(1000000654196868L));
        due("ways()", y.ways(), -3);
        due("steps(0)", y.steps(0), -3);
        due("reads()", y.reads(), 1);
        due("of its HOSTS", y.over(2, 0, 1, 0, 8, NONE, NONE), 916663977337122L);
        due("without(0)", y.without(0), 1000000654196868L - 370463571918L);
        due("out(0, 1)", y.out(0, 1), 1);
        due("ways()", y.ways(), 1000000654196868L - 370463571918L);
        due("steps(0)", y.steps(0) > 0 ? 1 : 0, 1);
    }

    private void lookAtNumber(String grammar, BigInteger ways) {
        lookAtNumber(grammar, 8, ways);
    }

    private void lookAtNumber(String grammar, int letters, BigInteger ways) {
        Reference r = new Reference();
        r.parse(grammar);
        r.sentence = "aaaaaaaa";
        checks.due("the reference's ways", r.countWays(letters).toString(), ways.toString());
    }

    /** The greatest number that is told, once as a sum of those of two HOSTS, once as a product of those of two CHILDREN. */
    private void justNotTooGreat() {
        checks.about("TOO_GREAT: 1000000000000000 is not more than that");
        String five = "tree(A .);".repeat(5);
        String sum = "tree(S(B(B(B+ a A^))));tree(S(B(B(B(B .)))));tree(B(B(B a(B A^(B A^(B A^ B*))))));" + five;
        lookAtNumber(sum, 5, BigInteger.valueOf(MOST));
        CrossReader x = Checks.reader(sum, "aaaaa");
        lookAtGreatest(x);
        due("of its HOSTS", x.over(0, 0, 1, 0, 5, NONE, NONE), 976562500000L);
        due("of its HOSTS", x.over(1, 0, 1, 0, 5, NONE, NONE), MOST - 976562500000L);
        due("without(0)", x.without(0), MOST - 976562500000L);
        Checks.say(x, "aaaaaa");
        due("a LETTER more", x.ways(), -3);
        due("a LETTER more", x.steps(MOST - 1), -3);
        String product = "tree(S A^(B A^(B A^(B A^(B(B+ a))))));tree(B(B! a A^)(B! A^ B*));tree(B(B(B(B(B a(B A^(B A^ B*)))))));" + five;
        lookAtNumber(product, 6, BigInteger.valueOf(MOST));
        CrossReader y = Checks.reader(product, "aaaaaa");
        lookAtGreatest(y);
        due("below", y.over(0, 0, 0, 0, 6, NONE, NONE), MOST);
        due("above", y.over(0, 0, 1, 0, 6, NONE, NONE), MOST);
        due("its second CHILD", y.over(0, 2, 1, 0, 6, NONE, NONE), MOST / 5);
        y.out(7, 1);
        due("one of its first CHILD's HOSTS less", y.ways() > 0 && y.ways() < MOST / 5 * 4 ? 1 : 0, 1);
    }

    /** Each SPAN has one place at which it is parted, so that nothing is added to what is multiplied. */
    private void tooGreatByProducts() {
        checks.about("TOO_GREAT: a product to which nothing comes");
        String sixes = "tree(S a(S(S E^ E^)(S(S E^ E^)S^)));tree(S .);" + "tree(E .);".repeat(6);
        CrossReader x = Checks.reader(sixes, "aaaaa");
        lookAtNumber(sixes, 4, BigInteger.valueOf(2821109907456L));
        lookAtNumber(sixes, 5, BigInteger.valueOf(3656158440062976L));
        due("ways()", x.ways(), -3);
        due("steps(0)", x.steps(0), -3);
        due("over(0, 2, 0, 1, 5)", x.over(0, 2, 0, 1, 5, NONE, NONE), -3);
        due("over(0, 6, 0, 1, 5)", x.over(0, 6, 0, 1, 5, NONE, NONE), 2821109907456L * 36);
        due("without(7)", x.without(7), 95367431640625L);
        Checks.say(x, "aaaa");
        due("ways()", x.ways(), 2821109907456L);
        due("steps of the last", x.steps(2821109907455L), 21);
        String guests = "tree(S+ b(X(X E^ E^)(X E^(X E^ E^))));tree(S! a(S(X E^ E^)(X(X E^ E^)S*)));"
            + "tree(E .);".repeat(6);
        CrossReader y = Checks.reader(guests, "aaab");
        due("ways() with a GUEST", y.ways(), 16926659444736L);
        due("steps of the last", y.steps(16926659444735L), 21);
        Checks.say(y, "aaaab");
        due("around(0, 5, 4, 5)", y.around(0, 5, 4, 5), 2);
        due("over(1, 0, 1, 0, 5, 4, 5)", y.over(1, 0, 1, 0, 5, 4, 5), 2821109907456L);
        due("over(0, 0, 0, 4, 5)", y.over(0, 0, 0, 4, 5, NONE, NONE), 7776);
        due("ways() with a GUEST", y.ways(), -3);
    }

    private void lookAtGreatest(CrossReader x) {
        due("ways()", x.ways(), MOST);
        due("without a HOST that has some", x.without(0) < MOST ? 1 : 0, 1);
        due("steps(0)", x.steps(0) > 0 ? 1 : 0, 1);
        due("none behind the last", x.steps(MOST), NONE);
        for (long k : new long[] {0, MOST / 2, MOST - 1}) {
            due("tellWay(" + k + ")", x.tellWay(k) > 0 ? 1 : 0, 1);
            due("its test()", Checks.test(x, Checks.told(x)), 1);
        }
    }

    // ---- promises 13 to 15

    private void itemsEdges() {
        checks.about("13: how many NODES, SPANS, GAPS there are with WAYS");
        CrossReader x = Checks.reader("tree(S .);", "");
        due("items(0)", x.items(0), 2);
        due("items(1)", x.items(1), 2);
        Checks.say(x, "abcdefgh");
        due("items(0)", x.items(0), 18);
        x.marks(0, 0, 2);
        due("items(0), MARK 2", x.items(0), 18);
        due("items(1), MARK 2", x.items(1), 9);
        CrossReader y = Checks.reader("tree(S a S*);", "bbbbbbbb");
        due("a FOOT alone", y.items(0), 45);
        due("a FOOT alone", y.items(1), 45);
        Checks.say(y, "");
        due("a FOOT over nothing", y.items(1), 1);
        Checks.say(y, "a");
        // the LETTER; the FOOT over 0..0, 0..1, 1..1; the BRANCH over 0..1 around 1..1
        due("items(1)", y.items(1), 5);
        checks.about("13: -2");
        for (int half : new int[] {-1, 2, LEAST, GREATEST}) {
            due("items(" + half + ")", y.items(half), -2);
        }
    }

    private void spansEdges() {
        checks.about("14: HOSTS, as bits, whose NODE 0 is OVER a SPAN, above");
        CrossReader x = Checks.reader("tree(S a);tree(T a);tree(S b S*);tree(S+ a);tree(U! .);tree(U a b);tree(S a);tree(V a);", "ab");
        due("spans(0, 1)", x.spans(0, 1), 1 | 2 | 64 | 128);
        due("spans(0, 2)", x.spans(0, 2), 32);
        due("spans(0, 0)", x.spans(0, 0), 16);
        due("spans(2, 2)", x.spans(2, 2), 16);
        due("spans(1, 2)", x.spans(1, 2), 0);
        x.out(7, 1);
        due("one that is OUT", x.spans(0, 1), 1 | 2 | 64);
        Checks.say(x, "ba");
        due("with a GUEST", x.spans(0, 2), 1 | 8 | 64);
        checks.about("14: -2");
        int[][] bad = {{-1, 0}, {-1, -1}, {0, 3}, {3, 3}, {1, 0}, {2, 1}, {0, -1}, {LEAST, 0}, {0, GREATEST}, {GREATEST, GREATEST},
            {LEAST, LEAST}, {LEAST, GREATEST}, {GREATEST, LEAST}};
        for (int[] one : bad) {
            due("spans(" + one[0] + ", " + one[1] + ")", x.spans(one[0], one[1]), -2);
        }
        Checks.say(x, "abababab");
        due("spans(8, 8)", x.spans(8, 8), 16);
        due("spans(0, 8)", x.spans(0, 8), 0);
        due("spans(0, 9)", x.spans(0, 9), -2);
    }

    private void aroundEdges() {
        checks.about("15: GUESTS, as bits, whose NODE 0 is OVER a SPAN around a GAP, above");
        CrossReader x = Checks.reader("tree(S a);tree(S b S*);tree(T b T*);tree(S! S* a);tree(S b b);tree(S+ b S*);tree(U b);tree(V b V*);", "bba");
        due("around(1, 3, 2, 3)", x.around(1, 3, 2, 3), 2 | 4 | 128);
        due("around(0, 3, 2, 3)", x.around(0, 3, 2, 3), 2 | 4 | 32 | 128);
        due("around(0, 3, 0, 2)", x.around(0, 3, 0, 2), 8);
        due("around(0, 1, 1, 1)", x.around(0, 1, 1, 1), 2 | 4 | 128);
        due("around(0, 0, 0, 0)", x.around(0, 0, 0, 0), 0);
        due("around(3, 3, 3, 3)", x.around(3, 3, 3, 3), 0);
        x.out(2, 1);
        x.out(7, 1);
        due("those that are OUT", x.around(1, 3, 2, 3), 2);
        checks.about("15: -2");
        int[][] bad = {{-1, 3, 0, 1}, {0, 4, 0, 1}, {1, 3, 0, 2}, {0, 2, 1, 3}, {0, 3, 2, 1}, {3, 2, 2, 3}, {0, 3, NONE, NONE}, {0, 3, NONE, 3},
            {0, 3, 0, NONE}, {4, 4, 4, 4}, {-1, -1, -1, -1}, {LEAST, 3, 0, 3}, {0, GREATEST, 0, 3}, {0, 3, LEAST, 3}, {0, 3, 0, GREATEST},
            {0, 3, GREATEST, GREATEST}, {LEAST, LEAST, LEAST, LEAST}};
        for (int[] one : bad) {
            due("around(" + one[0] + ", " + one[1] + ", " + one[2] + ", " + one[3] + ")", x.around(one[0], one[1], one[2], one[3]), -2);
        }
    }

    // ---- promises 16 to 20, 34

    private void readEdges() {
        checks.about("16, II: READ, if NODE 0 of a HOST with the LABEL START is OVER all of it, above");
        CrossReader x = Checks.reader("tree(S! a S*);tree(S+ b);tree(T c);", "ab");
        due("START is a GUEST's", x.reads(), 1);
        Checks.say(x, "b");
        due("not bare, with MARK 2", x.reads(), 0);
        Checks.say(x, "a");
        due("not a GUEST", x.reads(), 0);
        Checks.say(x, "c");
        due("not another LABEL", x.reads(), 0);
        Checks.say(x, "aab");
        due("not a part of it", x.reads(), 0);
        Checks.say(x, "ab");
        x.out(0, 1);
        due("the GUEST being OUT", x.reads(), 0);
        x.marks(1, 0, 0);
        Checks.say(x, "b");
        due("START of one that is OUT", x.reads(), 1);
        CrossReader y = Checks.reader("tree(S a);", "");
        due("no LETTERS, and none that is OVER nothing", y.reads(), 0);
        due("ways()", y.ways(), 0);
        Checks.grammar(y, "tree(S .);");
        due("no LETTERS, READ", y.reads(), 1);
        due("ways()", y.ways(), 1);
    }

    private void headsEdges() {
        checks.about("17: for which m (0 .. as many as there are), as bits");
        CrossReader x = Checks.reader("tree(S .);tree(S a(S! b S*));", "abababab");
        due("m 0, 2, 4, 6, 8", x.heads(), 1 | 4 | 16 | 64 | 256);
        Checks.say(x, "abababa");
        due("m 0, 2, 4, 6", x.heads(), 1 | 4 | 16 | 64);
        Checks.say(x, "ba");
        due("m 0", x.heads(), 1);
        Checks.say(x, "");
        due("m 0 alone", x.heads(), 1);
        x.out(0, 1);
        due("none", x.heads(), 0);
        x.out(0, 0);
        Checks.say(x, "aabb");
        due("the first LETTERS, not others", x.heads(), 1);
        Checks.grammar(x, "tree(S(S a a)(S b b));");
        due("all four alone", x.heads(), 16);
    }

    private void withoutEdges() {
        checks.about("19: how many, were a TREE OUT, too");
        CrossReader x = Checks.reader("tree(S a);tree(S a);tree(S .);tree(S! a S*);", "a");
        due("ways()", x.ways(), 3);
        long[] without = {2, 2, 2, 2};
        for (int tree = 0; tree < 4; tree++) {
            due("without(" + tree + ")", x.without(tree), without[tree]);
        }
        due("none is OUT by it", x.count(5), 0);
        due("ways()", x.ways(), 3);
        x.out(1, 1);
        due("one that is OUT", x.without(1), 2);
        due("too", x.without(0), 1);
        due("too", x.without(2), 1);
        due("count(5)", x.count(5), 2);
        due("step(0, 0, 0)", x.step(0, 0, 0), 0);
        x.without(0);
        due("step(0, 0, 0) behind it", x.step(0, 0, 0), 0);
        due("START stays that of TREE 0", Checks.reader("tree(S a);tree(T a);tree(S a);", "a").without(0), 1);
        checks.about("19: -2: there is none such");
        for (int tree : new int[] {-1, 4, 8, 32, LEAST, GREATEST}) {
            due("without(" + tree + ")", x.without(tree), -2);
        }
    }

    private void lengthsEdges() {
        checks.about("20: the fewest, the most STEPS of a WAY");
        CrossReader x = Checks.reader("tree(S a a);tree(S! a S*);tree(S .);tree(S! a(S a S*));tree(S A^ a);tree(A a);", "aa");
        // (S a a): 1; nothing, and both: 2; an A and a: 2
        due("ways()", x.ways(), 3);
        due("fewest", x.lengths(0), 1);
        due("most", x.lengths(1), 2);
        x.marks(1, 0, 0);
        due("most, one into another", x.lengths(1), 3);
        x.out(0, 1);
        due("fewest", x.lengths(0), 2);
        checks.about("20: NONE: there is none; -2");
        Checks.say(x, "b");
        due("lengths(0)", x.lengths(0), NONE);
        due("lengths(1)", x.lengths(1), NONE);
        for (int what : new int[] {-1, 2, LEAST, GREATEST}) {
            due("without WAYS, lengths(" + what + ")", x.lengths(what), -2);
        }
        Checks.say(x, "aa");
        for (int what : new int[] {-1, 2, LEAST, GREATEST}) {
            due("lengths(" + what + ")", x.lengths(what), -2);
        }
        due("of one STEP", Checks.reader("tree(S .);", "").lengths(1), 1);
    }

    private void usedEdges() {
        checks.about("34: of which some WAY has a STEP, each WAY has one");
        CrossReader x = Checks.reader("tree(S .);tree(S! a S*);tree(T a);tree(S! S* a);tree(S B^ a);tree(B .);tree(U a);tree(S! S* b);", "ab");
        due("some", x.used(0), 16 | 32 | 128);
        due("each, there being one", x.used(1), 16 | 32 | 128);
        x.marks(7, 0, 0);
        due("some, one into another", x.used(0), 1 | 2 | 16 | 32 | 128);
        due("each", x.used(1), 128);
        x.out(4, 1);
        due("some", x.used(0), 1 | 2 | 128);
        due("each", x.used(1), 1 | 2 | 128);
        checks.about("34: 0 without WAYS");
        Checks.say(x, "ba");
        x.out(0, 1);
        due("some", x.used(0), 0);
        due("each", x.used(1), 0);
        checks.about("34: -2: no such what");
        for (int what : new int[] {-1, 2, LEAST, GREATEST}) {
            due("used(" + what + ")", x.used(what), -2);
        }
        due("the last TREE", Checks.reader("tree(S a);".repeat(7) + "tree(S b);", "b").used(1), 128);
    }
}
