/** The edges that the document names of single ways, of OUT and of steps told as texts: terms III, promises 21 to 29. */
public final class WaysEdgesTest {
    private static final int NONE = CrossReader.NONE;
    private static final int LEAST = Integer.MIN_VALUE;
    private static final int GREATEST = Integer.MAX_VALUE;
    /** 41 STEPS over eight times a, 5 to the eighth times a great number of WAYS. */
    private static final String FIVES = "tree(S(S! S^ S^)(S!(S! S^ S^)(S! S^ a)));";
    private static final String CHAIN = "tree(S .);tree(S a(S! b S*));tree(S+ c S*);tree(S! A^(S! d S*));tree(A .);tree(S! e S*);";

    private final Checks checks = new Checks();

    public static void main(String[] args) {
        WaysEdgesTest test = new WaysEdgesTest();
        test.refusedRanks();
        test.refusedOthers();
        test.stepsAndHeads();
        test.numbering();
        test.lettersOfSteps();
        test.arcsWithout();
        test.arcsThatCross();
        test.arcsThatDoNot();
        test.grownTrees();
        test.toldTrees();
        test.toldWays();
        test.octets();
        test.outOfRefusedCalls();
        test.stepsTexts();
        test.greatNumbers();
        test.fortySteps();
        test.firstSteps();
        test.otherSteps();
        test.missingOnes();
        test.waysOfSentences();
        test.testLeavesTheRest();
        test.checks.finish();
    }

    private void due(String call, long got, long want) {
        checks.due(call, got, want);
    }

    // ---- promise 21, and 22 to 27 as it says

    /** All calls of the k-th, arguments being such as can be, and as can't be. */
    private void everyCall(CrossReader x, long k, long want) {
        due("steps(" + k + ")", x.steps(k), want);
        due("step(" + k + ", 0, 0)", x.step(k, 0, 0), want);
        due("step(" + k + ", 99, 0)", x.step(k, 99, 0), want);
        due("step(" + k + ", -1, 0)", x.step(k, -1, 0), want);
        due("step(" + k + ", 0, 9)", x.step(k, 0, 9), want);
        due("whose(" + k + ", 0, 0)", x.whose(k, 0, 0), want);
        due("whose(" + k + ", 9, 0)", x.whose(k, 9, 0), want);
        due("whose(" + k + ", 0, 9)", x.whose(k, 0, 9), want);
        due("arcs(" + k + ", 0)", x.arcs(k, 0), want);
        due("arcs(" + k + ", 9)", x.arcs(k, 9), want);
        due("grown(" + k + ", 0)", x.grown(k, 0), want);
        due("grown(" + k + ", 9)", x.grown(k, 9), want);
        due("tell(" + k + ")", x.tell(k), want);
        due("tellWay(" + k + ")", x.tellWay(k), want);
    }

    private void refusedRanks() {
        checks.about("21: -2: k is below 0; then TOO_GREAT; then NONE; then -2 for others");
        CrossReader great = Checks.reader(FIVES + "tree(S .);".repeat(7), "aaaaaaaa");
        CrossReader none = Checks.reader("tree(S a);", "b");
        CrossReader two = Checks.reader("tree(S a);tree(S(S a));", "a");
        CrossReader bare = new CrossReader();
        for (long k : new long[] {-1, -2, -3, LEAST, Long.MIN_VALUE, -1L << 32}) {
            everyCall(great, k, -2);
            everyCall(none, k, -2);
            everyCall(two, k, -2);
            everyCall(bare, k, -2);
        }
        for (long k : new long[] {0, 1, GREATEST, Long.MAX_VALUE}) {
            everyCall(great, k, -3);
            everyCall(none, k, NONE);
            everyCall(bare, k, NONE);
        }
        for (long k : new long[] {2, 3, GREATEST, 1L << 32, (1L << 32) + 1, Long.MAX_VALUE}) {
            everyCall(two, k, NONE);
        }
        due("the first", two.steps(0), 1);
        due("the last", two.grown(1, 1), 2);
    }

    private void refusedOthers() {
        checks.about("22: -2: no such STEP, what");
        CrossReader x = Checks.reader("tree(S a);tree(S! b S*);", "ba");
        due("the last STEP", x.step(0, 1, 0), 1);
        for (int other : new int[] {-1, 2, 40, 48, LEAST, GREATEST}) {
            due("STEP " + other, x.step(0, other, 0), -2);
            due("what 4 or " + other, x.step(0, 0, other == 2 ? 4 : other), -2);
        }
        checks.about("23: -2: no such place, what");
        due("the last place", x.whose(0, 1, 0), 0);
        for (int other : new int[] {-1, 2, 8, 9, LEAST, GREATEST}) {
            due("place " + other, x.whose(0, other, 0), -2);
            due("what " + other, x.whose(0, 0, other), -2);
        }
        CrossReader empty = Checks.reader("tree(S .);", "");
        due("no LETTERS", empty.whose(0, 0, 0), -2);
        checks.about("24, 25: -2: no such what");
        for (int what : new int[] {-1, 3, LEAST, GREATEST}) {
            due("arcs(0, " + what + ")", x.arcs(0, what), -2);
        }
        for (int what : new int[] {-1, 2, LEAST, GREATEST}) {
            due("grown(0, " + what + ")", x.grown(0, what), -2);
        }
    }

    // ---- promises 22, 23, terms III

    private void stepsAndHeads() {
        checks.about("22: its TREE, the STEP, the NODE (NONE both of STEP 0), its HEAD");
        CrossReader x = Checks.reader("tree(S .);tree(S(S! a S*)b);tree(S! A^(S! c S*));tree(A .);", "cab");
        int[][] due = {{0, NONE, NONE, NONE}, {1, 0, 0, 1}, {2, 1, 0, 0}, {3, 2, 1, NONE}};
        due("ways()", x.ways(), 1);
        due("steps(0)", x.steps(0), 4);
        for (int step = 0; step < 4; step++) {
            for (int what = 0; what < 4; what++) {
                due("step(0, " + step + ", " + what + ")", x.step(0, step, what), due[step][what]);
            }
        }
        checks.about("III: HEAD: the LETTER of the least NODE");
        CrossReader y = Checks.reader("tree(S(S(S .)z)(S a b));tree(S! q S*);", "zab");
        due("z's", y.step(0, 0, 3), 0);
        Checks.say(y, "qzab");
        due("three ways", y.ways(), 3);
        due("z's, in the first", y.step(0, 0, 3), 1);
        due("q's", y.step(0, 1, 3), 0);
        Checks.say(y, "zqab");
        due("z's", y.step(0, 0, 3), 0);
        due("q's", y.step(0, 1, 3), 1);
    }

    /** Of a BRANCH first the GUEST (with all that is put into it), then its CHILDREN; of a PLACE the HOST likewise. */
    private void numbering() {
        checks.about("III: STEPS are numbered so");
        CrossReader x = Checks.reader("tree(S P^(T P^ s));tree(P+ p);tree(P! Q^(P! x P*));tree(Q(Q q));tree(Q! y Q*);tree(T! z T*);"
            + "tree(S!(S! Q^ w)S*);", "qwpzqxps");
        due("MARK 2 of the first P", x.ways(), 0);
        x.marks(1, 0, 0);
        due("ways()", x.ways(), 1);
        x.tellWay(0);
        checks.due("GUESTS first, at NODE 0, then CHILDREN", Checks.told(x), "0;6 0 0;3 1 2;1 0 1;5 0 2;1 0 3;2 5 0;3 6 1;");
    }

    private void lettersOfSteps() {
        checks.about("23: which STEP, which NODE has the LETTER");
        CrossReader x = Checks.reader("tree(S(S a S^)(S b c));tree(S! d e);tree(S! f(S! S* g));", "fadebcg");
        int[][] due = {{1, 1}, {0, 2}, {2, 1}, {2, 2}, {0, 5}, {0, 6}, {1, 4}};
        due("ways()", x.ways(), 1);
        for (int place = 0; place < 7; place++) {
            due("whose(0, " + place + ", 0)", x.whose(0, place, 0), due[place][0]);
            due("whose(0, " + place + ", 1)", x.whose(0, place, 1), due[place][1]);
        }
        CrossReader full = Checks.reader("tree(S a);tree(S a S*);", "aaaaaaaa");
        full.marks(0, 0, 0);
        due("the eighth", full.whose(0, 7, 0), 0);
        due("the first", full.whose(0, 0, 1), 1);
    }

    // ---- promise 24

    private void lookAtArcs(String grammar, String sentence, int arcs, int crossing, int longest) {
        CrossReader x = Checks.reader(grammar, sentence);
        due("ways() of " + sentence, x.ways(), 1);
        due("arcs(0, 0) of " + sentence, x.arcs(0, 0), arcs);
        due("arcs(0, 1) of " + sentence, x.arcs(0, 1), crossing);
        due("arcs(0, 2) of " + sentence, x.arcs(0, 2), longest);
    }

    private void arcsWithout() {
        checks.about("24: 0 without; III: an ARC of each STEP but STEP 0 with a HEAD, put into one with a HEAD");
        lookAtArcs("tree(S .);", "", 0, 0, 0);
        lookAtArcs("tree(S a b);", "ab", 0, 0, 0);
        lookAtArcs("tree(S .);tree(S! a S*);", "a", 0, 0, 0);
        lookAtArcs("tree(S A^ a);tree(A .);", "a", 0, 0, 0);
        lookAtArcs("tree(S A^ a);tree(A b);", "ba", 1, 0, 1);
        lookAtArcs("tree(S(S! .));tree(S b S*);", "bb", 1, 0, 1);
        checks.about("24: the longest: how far both HEADS are");
        lookAtArcs("tree(S(S A^(S b c))(S d e));tree(A a);", "abcde", 1, 0, 1);
        lookAtArcs("tree(S a(S(S b c)(S d A^)));tree(A e);", "abcde", 1, 0, 4);
        lookAtArcs("tree(S A^(S B^(S C^(S D^(S E^ z)))));tree(A a);tree(B b);tree(C c(C c c));tree(D .);tree(E e e);", "abccceez", 4, 0, 7);
    }

    private void arcsThatCross() {
        checks.about("24, III: two of which CROSS: just one HEAD of the one is between both of the other");
        String cluster = "tree(S!(T v)(U(U u)));tree(T!(T!(T! N^ N^)T*)w);tree(N n);tree(N .);tree(U! p U*);";
        // HEADS: v in the midst, w behind it, n ahead of it hang on w; p behind w hang on v
        CrossReader x = Checks.reader(cluster, "nnvwppu");
        due("arcs", x.arcs(0, 0), 5);
        due("each n with each p", x.arcs(0, 1), 4);
        due("longest", x.arcs(0, 2), 3);
        Checks.say(x, "nvwpu");
        due("arcs", x.arcs(0, 0), 3);
        due("one", x.arcs(0, 1), 1);
        Checks.say(x, "nnvwpu");
        due("two", x.arcs(0, 1), 2);
        Checks.say(x, "vwppu");
        due("none", x.arcs(0, 1), 0);
    }

    private void arcsThatDoNot() {
        checks.about("III: four HEADS, all unlike: one in common, the one's last is the other one's first");
        lookAtArcs("tree(S s A^);tree(A a B^);tree(B b);", "sab", 2, 0, 1);
        lookAtArcs("tree(S A^ s);tree(A B^ a);tree(B b);", "bas", 2, 0, 1);
        lookAtArcs("tree(S A^(S s B^));tree(A a);tree(B b);", "asb", 2, 0, 1);
        checks.about("III: one in common, both on one side");
        lookAtArcs("tree(S s(S A^ B^));tree(A a);tree(B b);", "sab", 2, 0, 2);
        lookAtArcs("tree(S(S A^ B^)s);tree(A a);tree(B b);", "abs", 2, 0, 2);
        checks.about("III: one in common, the one's within the other one's");
        lookAtArcs("tree(S(S! A^ .)s);tree(A(A! a .)B^);tree(B b);", "abs", 2, 0, 2);
        checks.about("III: the one within the other one");
        lookAtArcs("tree(S s(S A^ B^));tree(A a C^);tree(B b);tree(C c);", "sacb", 3, 0, 3);
        checks.about("III: the one behind the other one");
        lookAtArcs("tree(S s(S A^ B^));tree(A a);tree(B b C^);tree(C c);", "sabc", 3, 0, 2);
    }

    // ---- promises 25 to 28

    private void grownTrees() {
        checks.about("25: the most BRANCHES one below the other, all BRANCHES");
        CrossReader x = Checks.reader("tree(S(S(S(S(S a)))));tree(S a);tree(S!(T .)(S A^ b));tree(A(A(A .)(A .)).);tree(S!(S(S c S*)));", "a");
        due("deep", x.grown(0, 0), 5);
        due("shallow behind deep", x.grown(1, 0), 1);
        due("all", x.grown(1, 1), 1);
        due("all", x.grown(0, 1), 5);
        Checks.say(x, "b");
        due("a HOST for its PLACE", x.grown(0, 0), 5);
        due("all", x.grown(0, 1), 7);
        Checks.say(x, "ca");
        due("GUESTS", x.ways(), 6);
        due("a GUEST where the BRANCH was", x.grown(0, 0), 8);
        due("all", x.grown(5, 1), 4);
        due("deep", x.grown(5, 0), 4);
        checks.about("25: the deepest is no last one");
        CrossReader y = Checks.reader("tree(S(S(S a)b)c);", "abc");
        due("deep", y.grown(0, 0), 3);
    }

    private void toldTrees() {
        checks.about("26: how many bytes; a blank ahead of each CHILD");
        lookAtTold("tree(S .);", "", "(S .)");
        lookAtTold("tree(Z! z .);", "z", "(Z z .)");
        lookAtTold("tree(A+(B .));tree(A! A* c);", "c", "(A (A (B .)) c)");
        lookAtTold("tree(A(B C^ b)(D! a));tree(C . .);", "ba", "(A (B (C . .) b) (D a))");
        lookAtTold("tree(S(T! S^ z));tree(S!(S! .));tree(T! t T*);", "z", "(S (T (S (S .)) z))");
    }

    private void lookAtTold(String grammar, String sentence, String tree) {
        CrossReader x = Checks.reader(grammar, sentence);
        due("tell(0)", x.tell(0), tree.length());
        due("count(9)", x.count(9), tree.length());
        checks.due("told", Checks.told(x), tree);
    }

    private static String wayOf(CrossReader x, long k) {
        StringBuilder text = new StringBuilder();
        for (int step = 0; step < x.steps(k); step++) {
            text.append(x.step(k, step, 0));
            if (step > 0) {
                text.append(' ').append(x.step(k, step, 1)).append(' ').append(x.step(k, step, 2));
            }
            text.append(';');
        }
        return text.toString();
    }

    private void toldWays() {
        checks.about("27: of STEP 0 its TREE alone");
        CrossReader x = Checks.reader("tree(T t);tree(T .);", "");
        due("tellWay(0)", x.tellWay(0), 2);
        checks.due("told", Checks.told(x), "1;");
        checks.about("27: STEPS and NODES of two digits; as test() reads it");
        String grammar = "tree(S(S! S^ S^)(S! S^(S! S^ a)));tree(S(S .));";
        CrossReader y = Checks.reader(grammar, "aaaaaaaa");
        due("33 STEPS", y.steps(0), 33);
        for (long k : new long[] {0, 1, y.ways() / 2, y.ways() - 1}) {
            String way = wayOf(y, k);
            due("tellWay(" + k + ")", y.tellWay(k), way.length());
            checks.due("told", Checks.told(y), way);
            due("test()", Checks.test(y, way), 1);
            checks.due("its LETTERS", Checks.told(y), "aaaaaaaa");
        }
        CrossReader z = Checks.reader("tree(S(S!(S!(S!(S!(S!(S!(S!(S!(S! A^ a))))))))));tree(A .);", "a");
        due("NODE 10", z.tellWay(0), 9);
        checks.due("told", Checks.told(z), "0;1 0 10;");
        CrossReader full = Checks.reader(FIVES + "tree(S .);", "aaaaaaaa");
        checks.about("27: 41 STEPS");
        due("41", full.steps(0), 41);
        String way = wayOf(full, 0);
        due("tellWay(0)", full.tellWay(0), way.length());
        checks.due("told", Checks.told(full), way);
    }

    private void octets() {
        checks.about("28: empty ahead of any");
        CrossReader x = Checks.reader("tree(S a);", "a");
        for (int i : new int[] {0, 1, -1, LEAST, GREATEST}) {
            due("octet(" + i + ")", x.octet(i), NONE);
        }
        checks.about("28: NONE: there is none such");
        due("tell(0)", x.tell(0), 5);
        due("the first", x.octet(0), '(');
        due("the last", x.octet(4), ')');
        for (int i : new int[] {5, 6, 2047, 2048, -1, LEAST, GREATEST}) {
            due("octet(" + i + ")", x.octet(i), NONE);
        }
        checks.about("28: what was told last");
        due("tellWay(0)", x.tellWay(0), 2);
        due("the last", x.octet(1), ';');
        due("what was longer", x.octet(2), NONE);
        due("test()", Checks.test(x, "0;"), 1);
        due("the LETTER", x.octet(0), 'a');
        due("what was longer", x.octet(1), NONE);
        checks.about("28: whatever came since, a new text, too");
        x.tell(0);
        Checks.grammar(x, "tree(T .);tree(T b T*);");
        checks.due("grammar()", Checks.told(x), "(S a)");
        Checks.say(x, "bb");
        checks.due("say()", Checks.told(x), "(S a)");
        x.out(0, 1);
        x.out(0, 0);
        x.marks(0, 0, 2);
        x.mends();
        x.sentences(4);
        x.steps(0);
        x.without(0);
        Checks.tape(x, "tree");
        checks.due("others", Checks.told(x), "(S a)");
        x.end(0);
        x.grammar();
        checks.due("no TREES", Checks.told(x), "(S a)");
        due("count(9)", x.count(9), 5);
        checks.about("28: told anew, though it is nothing");
        Checks.grammar(x, "tree(T .);");
        due("of none", Checks.test(x, "0;"), 0);
        due("count(9)", x.count(9), 0);
        due("octet(0)", x.octet(0), NONE);
    }

    private void outOfRefusedCalls() {
        checks.about("28: by a call that was not refused");
        CrossReader x = Checks.reader(CHAIN, "ab");
        x.tellWay(0);
        String told = Checks.told(x);
        due("tell(-1)", x.tell(-1), -2);
        due("tell(1)", x.tell(1), NONE);
        due("tellWay(-1)", x.tellWay(-1), -2);
        due("tellWay(1)", x.tellWay(1), NONE);
        String[] refused = {"", "x", "9;", "1;", "0;9 0 0;", "0;3 0 0;", "0;2 0 0;"};
        int[] answers = {-4, -4, -100, -100, -101, -201, -301};
        for (int i = 0; i < refused.length; i++) {
            due("test() of " + refused[i], Checks.test(x, refused[i]), answers[i]);
            checks.due("OUT stays", Checks.told(x), told);
        }
        Checks.grammar(x, FIVES + "tree(S .);".repeat(7));
        Checks.say(x, "aaaaaaaa");
        due("tell(0), TOO_GREAT", x.tell(0), -3);
        due("tellWay(0), TOO_GREAT", x.tellWay(0), -3);
        checks.due("OUT stays", Checks.told(x), told);
    }

    // ---- promise 29

    private void stepsTexts() {
        checks.about("29: NUMBER ; {NUMBER NUMBER NUMBER ;} (digits; blanks where one likes)");
        CrossReader x = Checks.reader(CHAIN, "ab");
        String[] good = {"0;1 0 0;", "0 ; 1 0 0 ; ", "\n0\n;\n1\n0\n0\n;\n", "00;01 000 0;", "  0;  1   0  \n 0;", "0;1 0 0;" + " ".repeat(392)};
        for (String text : good) {
            due("test() of [" + text + "]", Checks.test(x, text), 1);
            due("the TAPE (empty then)", x.count(8), 0);
        }
        checks.about("29: -4: no such text");
        String[] bad = {"", " ", "\n", ";", "0", "0 ", "0 0;", "0 0 0;", "0;1;", "0;1 0;", "0;1 0 0", "0;1 0 0 0;", "0;;", "0;1 0 0;;", ";0;", "0,",
            "0;1 0 0;1", "0;10 0;", "0:1 0 0;", "+0;", "-0;", "0.;", "a;", "0;a 0 0;", "0;1 a 0;", "0;1 0 a;", "0;1 0 0a;", "0;1,0,0;",
            "0;1\t0 0;", "0\r;", "0;1 0 0;" + (char) 0, "0;1 0 0;" + (char) 160, "0" + (char) 176 + ";", "/;", ":;", "0;1 0 -0;"};
        for (String text : bad) {
            due("test() of [" + text + "]", Checks.test(x, text), -4);
            due("the TAPE (empty then)", x.count(8), 0);
        }
        due("no text, and no such TREE in it: -4", Checks.test(x, "9;1 0 0"), -4);
        due("no text, and no such STEP in it: -4", Checks.test(x, "0;1 7 0;?"), -4);
    }

    private void greatNumbers() {
        checks.about("29: NUMBERS of many digits");
        CrossReader x = Checks.reader(CHAIN, "ab");
        due("zeros", Checks.test(x, "0".repeat(300) + ";" + "0".repeat(70) + "1 0 0;"), 1);
        for (String number : new String[] {"256", "65536", "2147483648", "4294967296", "18446744073709551616", "1" + "0".repeat(300)}) {
            due("a TREE at first", Checks.test(x, number + ";"), -100);
            due("a TREE", Checks.test(x, "0;" + number + " 0 0;"), -101);
            due("a STEP", Checks.test(x, "0;1 " + number + " 0;"), -101);
            due("a NODE", Checks.test(x, "0;1 0 " + number + ";"), -101);
        }
        due("4294967297", Checks.test(x, "0;4294967297 0 0;"), -101);
    }

    /** The first STEPS of a chain of GUESTS, each put into NODE 0 of the one ahead of it. */
    private static String chain(int steps) {
        StringBuilder text = new StringBuilder("0;");
        for (int step = 1; step < steps; step++) {
            text.append("1 ").append(step - 1).append(" 0;");
        }
        return text.toString();
    }

    private void fortySteps() {
        checks.about("29: 40 STEPS at most");
        CrossReader x = Checks.reader(CHAIN, "ab");
        due("40", Checks.test(x, chain(40)), 0);
        checks.due("its LETTERS are in OUT then", Checks.told(x), "ab".repeat(39));
        due("41", Checks.test(x, chain(41)), -4);
        due("41, blanks", Checks.test(x, chain(41) + " "), -4);
        due("40, and a NUMBER", Checks.test(x, chain(40) + "1"), -4);
        due("40, and a blank", Checks.test(x, chain(40) + " "), 0);
        due("the 40th can't be there", Checks.test(x, chain(39) + "6 38 0;"), -139);
        due("the 40th into itself", Checks.test(x, chain(39) + "1 39 0;"), -139);
        due("the 40th has a PLACE", Checks.test(x, chain(39) + "3 38 0;"), -239);
        due("the 40th has MARK 2", Checks.test(x, chain(39) + "2 38 0;"), -339);
        due("the 39th can't be there", Checks.test(x, chain(38) + "0 37 0;1 37 0;"), -138);
        checks.due("OUT stays", Checks.told(x), "ab".repeat(39));
        checks.about("29: 40 STEPS of as many LETTERS as there can be");
        CrossReader y = Checks.reader("tree(S(S!(S! a b)c)(S!(S! d e)f));tree(S(S!(S!(S! g h)i)(S! j k))S*);", "");
        due("40", Checks.test(y, chain(40)), 0);
        due("count(9)", y.count(9), 201);
        checks.due("told", Checks.told(y), "ghijk".repeat(39) + "abcdef");
    }

    private void firstSteps() {
        checks.about("29: STEP 0: no such TREE, one that is OUT, no HOST with the LABEL START");
        CrossReader x = Checks.reader("tree(S! a S*);tree(T .);tree(S .);tree(S b);", "b");
        due("a GUEST with the LABEL START", Checks.test(x, "0;"), -100);
        due("a HOST with another LABEL", Checks.test(x, "1;"), -100);
        due("a HOST with the LABEL START", Checks.test(x, "2;"), 0);
        due("the last TREE", Checks.test(x, "3;"), 1);
        due("no such TREE", Checks.test(x, "4;"), -100);
        due("no such TREE", Checks.test(x, "8;"), -100);
        x.out(3, 1);
        due("one that is OUT", Checks.test(x, "3;"), -100);
        x.out(3, 0);
        x.out(0, 1);
        due("START of one that is OUT", Checks.test(x, "3;"), 1);
        due("no TREES", Checks.test(new CrossReader(), "0;"), -100);
    }

    private void otherSteps() {
        checks.about("29: -100 less i: STEP i is the first that can't be there");
        String grammar = "tree(S A^(B! S^ s));tree(A! a);tree(A! b A*);tree(S c S*);tree(B d B*);tree(A(A(A .)));";
        CrossReader x = Checks.reader(grammar, "s");
        String[] wrong = {"0;6 0 0;", "0;1 1 1;", "0;1 2 1;5 0 1;", "0;1 0 5;", "0;1 0 12;", "0;4 0 0;", "0;2 0 2;", "0;4 0 2;", "0;0 0 1;",
            "0;3 0 1;", "0;2 0 1;", "0;1 0 2;", "0;0 0 0;", "0;3 0 4;", "0;1 0 4;", "0;3 1 0;"};
        for (String text : wrong) {
            due("test() of " + text, Checks.test(x, text), -101);
        }
        due("MARK 1", Checks.test(x, "0;1 0 1;2 1 0;"), -102);
        due("a FOOT", Checks.test(x, "0;3 0 0;3 1 2;"), -102);
        due("an EMPTY one", Checks.test(x, "0;5 0 1;2 1 3;"), -102);
        due("a GUEST is there already", Checks.test(x, "0;3 0 0;3 0 0;"), -102);
        due("a HOST is there already", Checks.test(x, "0;1 0 1;5 0 1;"), -102);
        due("the same HOST is there already", Checks.test(x, "0;1 0 1;1 0 1;"), -102);
        due("into itself, though it fits", Checks.test(x, "0;3 1 0;"), -101);
        due("a NODE that another TREE has", Checks.test(x, "0;3 0 0;3 1 3;"), -102);
        due("the first of two", Checks.test(x, "0;3 0 0;6 0 0;7 0 0;"), -102);
        due("just a PLACE is missing", Checks.test(x, "0;3 0 0;3 1 0;"), -200);
        x.out(3, 1);
        due("one that is OUT", Checks.test(x, "0;3 0 0;"), -101);
        x.out(3, 0);
        x.marks(0, 0, 1);
        due("MARK 1 as of now", Checks.test(x, "0;3 0 0;"), -101);
        x.marks(0, 2, 0);
        due("no MARK as of now", Checks.test(x, "0;4 0 2;"), -200);
    }

    private void missingOnes() {
        checks.about("29: -200 less i, -300 less i, in their order");
        String grammar = "tree(S+ A^ s);tree(A+ A^ a);tree(A .);tree(A! b A*);tree(S!(S! A^ S*)c);tree(T+ t);";
        CrossReader x = Checks.reader(grammar, "cs");
        due("both of STEP 0", Checks.test(x, "0;"), -200);
        due("MARK 2 of STEP 0, a PLACE of STEP 1", Checks.test(x, "0;1 0 1;"), -201);
        due("a PLACE of STEP 0, MARK 2 of none", Checks.test(x, "0;4 0 0;2 1 2;"), -200);
        due("the first PLACE", Checks.test(x, "0;4 0 0;1 0 1;"), -201);
        due("MARK 2 of STEP 0", Checks.test(x, "0;2 0 1;"), -300);
        due("MARK 2 of STEP 2", Checks.test(x, "0;4 0 0;1 0 1;2 1 2;2 2 1;"), -302);
        due("MARK 2 of STEP 0, of STEP 1", Checks.test(x, "0;1 0 1;2 1 1;"), -300);
        due("a PLACE of a later STEP ahead of MARK 2", Checks.test(x, "0;1 0 1;1 1 1;"), -202);
        due("-100 of the last ahead of all", Checks.test(x, "0;1 0 1;1 1 1;9 0 0;"), -103);
        due("all there", Checks.test(x, "0;4 0 0;2 0 1;2 1 2;"), 0);
        checks.due("told", Checks.told(x), "sc");
        checks.about("29: -300: the next TREE's MARK 2 is not this one's");
        CrossReader y = Checks.reader("tree(S A^ a);tree(A b);tree(T+ t);tree(S! c S*);tree(T+ u);", "cba");
        due("test()", Checks.test(y, "0;3 0 0;1 0 1;"), 1);
        y.marks(0, 0, 2);
        due("MARK 2 as of now", Checks.test(y, "0;1 0 1;"), -300);
        due("with a GUEST", Checks.test(y, "0;3 0 0;1 0 1;"), 1);
    }

    private void waysOfSentences() {
        checks.about("29: 1 if it is a WAY (whatever its order) of the SENTENCE, 0 if it is one of another one");
        CrossReader x = Checks.reader("tree(S(S A^ b)(S A^ d));tree(A a);tree(A c);tree(A .);tree(S! e S*);", "ebad");
        due("in its order", Checks.test(x, "0;4 0 0;3 0 2;1 0 5;"), 1);
        due("in another order", Checks.test(x, "0;1 0 5;3 0 2;4 0 0;"), 1);
        checks.due("its LETTERS", Checks.told(x), "ebad");
        due("another one, as long", Checks.test(x, "0;1 0 5;3 0 2;4 0 1;"), 1);
        due("the last of it is another LETTER", Checks.test(x, "0;1 0 2;3 0 5;4 0 0;"), 0);
        checks.due("its LETTERS", Checks.told(x), "eabd");
        due("one LETTER more", Checks.test(x, "0;4 0 0;3 0 2;1 0 5;4 0 4;"), 0);
        checks.due("its LETTERS", Checks.told(x), "ebead");
        due("one LETTER less", Checks.test(x, "0;3 0 2;1 0 5;"), 0);
        checks.due("its LETTERS", Checks.told(x), "bad");
        Checks.say(x, "abd");
        due("just the first LETTER is another one", Checks.test(x, "0;2 0 2;3 0 5;"), 0);
        checks.due("its LETTERS", Checks.told(x), "cbd");
        CrossReader y = Checks.reader("tree(S a(S .));tree(S b .);", "a");
        due("the same", Checks.test(y, "0;"), 1);
        due("another LETTER alone", Checks.test(y, "1;"), 0);
        Checks.say(y, "");
        due("of no LETTERS", Checks.test(y, "0;"), 0);
        CrossReader z = Checks.reader("tree(S .);tree(S a S*);", "aaaaaaaa");
        due("eight", Checks.test(z, chain(9)), 1);
        due("nine, the first eight of which it is", Checks.test(z, chain(10)), 0);
        due("count(9)", z.count(9), 9);
    }

    private void testLeavesTheRest() {
        checks.about("29: it tells, and nothing else");
        CrossReader x = Checks.reader(CHAIN, "abab");
        due("steps(0)", x.steps(0), 3);
        due("test()", Checks.test(x, "0;5 0 0;"), 0);
        due("steps(0) behind it", x.steps(0), 3);
        due("whose(0, 3, 0)", x.whose(0, 3, 0), 1);
        due("count(2)", x.count(2), 4);
        due("ways()", x.ways(), 1);
        x.tellWay(0);
        checks.due("told", Checks.told(x), "0;1 0 0;1 1 0;");
    }
}
