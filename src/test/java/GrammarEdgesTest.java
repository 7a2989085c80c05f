/** The edges that the document names of the tape, of grammars' texts and of their trees: terms I, promises 1 to 11. */
public final class GrammarEdgesTest {
    private static final int NONE = CrossReader.NONE;
    private static final int LEAST = Integer.MIN_VALUE;
    private static final int GREATEST = Integer.MAX_VALUE;
    private static final String EIGHT = "tree(A a);tree(B! z B*);tree(A+ .);tree(C A^ c);tree(D d);tree(E e);tree(F f);tree(Z! z Z*);";
    /** Eleven BRANCHES that are open: a twelfth NODE has room, a 13th has none. */
    private static final String ELEVEN = "tree(S(S(S(S(S(S(S(S(S(S(S";
    /** Ten NODES, 34 bytes. */
    private static final String TEN = "tree(S(S(S(S(S(S(S(S(S a)))))))));";

    private final Checks checks = new Checks();

    public static void main(String[] args) {
        GrammarEdgesTest test = new GrammarEdgesTest();
        test.newObjects();
        test.feedFull();
        test.feedBytes();
        test.endEdges();
        test.grammarInPlaceOfAnother();
        test.formerTreesAreGone();
        test.grammarRefused();
        test.faultAnswers();
        test.sayEdges();
        test.countEdges();
        test.treeEdges();
        test.nodeEdges();
        test.outEdges();
        test.marksEdges();
        test.signs();
        test.words();
        test.branches();
        test.feet();
        test.tooMany();
        test.lettersMissing();
        test.firstFaults();
        test.checks.finish();
    }

    private void due(String call, long got, long want) {
        checks.due(call, got, want);
    }

    // ---- promise 1

    private void newObjects() {
        checks.about("1: no TREES; the SENTENCE has no LETTERS");
        CrossReader x = new CrossReader();
        due("count(0)", x.count(0), 0);
        due("count(1)", x.count(1), 0);
        due("count(2)", x.count(2), 0);
        due("count(8)", x.count(8), 0);
        due("tree(0, 0)", x.tree(0, 0), -2);
        due("node(0, 0, 0)", x.node(0, 0, 0), -2);
        due("out(0, 1)", x.out(0, 1), -2);
        due("marks(0, 0, 0)", x.marks(0, 0, 0), -2);
        due("over", x.over(0, 0, 1, 0, 0, NONE, NONE), -2);
        due("without(0)", x.without(0), -2);
        due("spans(0, 0)", x.spans(0, 0), 0);
        due("spans(0, 1)", x.spans(0, 1), -2);
        due("around(0, 0, 0, 0)", x.around(0, 0, 0, 0), 0);
        due("items(0)", x.items(0), 0);
        due("items(1)", x.items(1), 0);
        due("heads()", x.heads(), 0);
        checks.about("1: each object is one of its own");
        CrossReader one = Checks.reader("tree(S a);", "a");
        CrossReader other = new CrossReader();
        Checks.tape(one, "xyz");
        due("count(0) of the other", other.count(0), 0);
        due("count(2) of the other", other.count(2), 0);
        due("count(8) of the other", other.count(8), 0);
        Checks.grammar(other, "tree(S(T b));tree(T c);");
        due("ways() of the one", one.ways(), 1);
        due("count(0) of the one", one.count(0), 1);
        due("count(8) of the one", one.count(8), 3);
    }

    // ---- promises 2, 3

    private void feedFull() {
        checks.about("2: how many it has; NONE, and none come, if it would have more than 400");
        CrossReader x = new CrossReader();
        Checks.tape(x, "tree(S a);" + " ".repeat(361) + "tree(S b);");
        due("count(8)", x.count(8), 381);
        due("to 401", x.feed(0x3f3f3f3f, 0x3f3f3f3f, 0x3f3f3f3f, 0x3f3f3f3f, 0x3f3f3f3f), NONE);
        due("count(8)", x.count(8), 381);
        due("none of the refused ones came", x.grammar(), 2);
        due("the first of an empty TAPE again", x.feed(0, 0, 0, 0, 0), 20);
        x.end(0);
        for (int many = 20; many <= 380; many += 20) {
            due("feed", x.feed(0x20202020, 0x20202020, 0x20202020, 0x20202020, 0x20202020), many);
        }
        due("just 400", x.feed(0x20202020, 0x20207472, 0x65652853, 0x20632920, 0x2020203b), 400);
        due("to 420", x.feed(0x3f3f3f3f, 0, 0, 0, 0), NONE);
        due("to 420 again", x.feed(0x3f3f3f3f, 0, 0, 0, 0), NONE);
        due("all 400 are read", x.grammar(), 1);
        due("its LETTER", x.count(7), 4);
    }

    private void feedBytes() {
        checks.about("2: four of each number, the highest first");
        CrossReader x = Checks.reader("tree(S(U a(U b c))(U d(U e f)));tree(S b(U a c));", "");
        x.feed(0x61626364, 0x65660000, 0, 0, 0);
        x.end(6);
        due("say()", x.say(), 6);
        due("abcdef", x.reads(), 1);
        x.feed(0x3f3f3f3f, 0x3f3f3f3f, 0x3f3f3f3f, 0x3f3f3f3f, 0x3f3f3f3f);
        x.end(0);
        x.feed(0x62616300, -1, LEAST, GREATEST, 1);
        x.end(3);
        due("say()", x.say(), 3);
        due("bac", x.reads(), 1);
        checks.about("2: the highest byte of a number below 0");
        x.feed(0xe1000000, 0, 0, 0, 0);
        x.end(1);
        due("225 is no LETTER", x.say(), -4);
        x.feed(-1, -1, -1, -1, -1);
        due("20 bytes 255: grammar()", x.grammar(), -4);
        due("at the first", x.fault(1), 0);
        x.feed(0x20202020, 0x20202020, 0x20202020, 0x20202020, 0x2020203f);
        due("the last byte of the last number", x.grammar(), -4);
        due("at the 19th", x.fault(1), 19);
        x.feed(0x20202020, 0x20202020, 0x20202020, 0x3f202020, 0x20202020);
        due("the first byte of the fourth number", x.grammar(), -4);
        due("at the 12th", x.fault(1), 12);
    }

    private void endEdges() {
        checks.about("3: the TAPE has its first n bytes alone");
        CrossReader x = Checks.reader("tree(S(U a b)(U x y));", "");
        due("end(0) of an empty one", x.end(0), 0);
        due("end(1) of an empty one", x.end(1), NONE);
        Checks.tape(x, "abcdefgh");
        due("end(2)", x.end(2), 2);
        due("what was cut is not there", x.end(3), NONE);
        x.feed(0x78792020, 0, 0, 0, 0);
        due("count(8)", x.count(8), 22);
        due("end(4)", x.end(4), 4);
        due("say()", x.say(), 4);
        due("abxy", x.reads(), 1);
        checks.about("3: NONE, and nothing happens, if it has not so many, or n is below 0");
        Checks.tape(x, "abxy");
        due("end(5)", x.end(5), NONE);
        due("end(400)", x.end(400), NONE);
        due("end of the greatest", x.end(GREATEST), NONE);
        due("end(-1)", x.end(-1), NONE);
        due("end of the least", x.end(LEAST), NONE);
        due("count(8)", x.count(8), 4);
        due("end(4), all of it", x.end(4), 4);
        due("say()", x.say(), 4);
        due("still read", x.reads(), 1);
    }

    // ---- promises 4, 5

    private void grammarInPlaceOfAnother() {
        checks.about("4: in place of another");
        CrossReader x = Checks.reader("tree(S! a S*);tree(S+ b);tree(T A^ t);tree(A .);", "ab");
        x.marks(1, 0, 1);
        x.out(3, 1);
        due("TREES", Checks.grammar(x, "tree(B(B c));"), 1);
        int[] counts = {1, 3, 2, 1, 0, 0, 1, 4, 0, 0};
        for (int what = 0; what < counts.length; what++) {
            due("count(" + what + ")", x.count(what), counts[what]);
        }
        due("tree(1, 0) is gone", x.tree(1, 0), -2);
        due("MARK", x.node(0, 0, 2), 0);
        due("MARK", x.node(0, 1, 2), 0);
        // The next ones come where the first one was.
        due("TREES", Checks.grammar(x, "tree(S a b);tree(B . b);"), 2);
        due("HOSTS", x.count(3), 3);
        due("GUESTS", x.count(4), 0);
        due("OUT ones", x.count(5), 0);
        due("LETTERS", x.count(7), 3);
        due("MARK", x.node(1, 0, 2), 0);
        due("the SENTENCE stays, and is READ", x.ways(), 1);
        due("TREES", Checks.grammar(x, "tree(S(S a)b);"), 1);
        due("none of the former GUESTS", x.ways(), 1);
        due("steps(0)", x.steps(0), 1);
        checks.about("4: a text without TREES");
        due("grammar()", x.grammar(), 0);
        due("count(6)", x.count(6), NONE);
        due("ways()", x.ways(), 0);
        due("heads()", x.heads(), 0);
        due("without(0)", x.without(0), -2);
        due("spans(0, 2)", x.spans(0, 2), 0);
        due("mends()", x.mends(), 0);
        due("sentences(0)", x.sentences(0), 0);
        due("the SENTENCE stays", x.count(2), 2);
        due("blanks alone", Checks.grammar(x, " \n \n"), 0);
        due("400 blanks", Checks.grammar(x, " ".repeat(400)), 0);
    }

    /** TREES of the same number in a former one, and in one that was refused, had LABELS that are asked for. */
    private void formerTreesAreGone() {
        String[] ahead = {"tree(Q q);", "?", "", "tree(Q q)"};
        for (String text : ahead) {
            checks.about("4: in place of another, [" + text + "] ahead of it");
            CrossReader x = Checks.reader("tree(S s);tree(A a);tree(S b S*);", "as");
            Checks.grammar(x, text);
            due("TREES", Checks.grammar(x, "tree(S A^ s);tree(B a);tree(T b T*);tree(S! b);"), 4);
            due("no HOST of the former LABEL", x.ways(), 0);
            due("no HOST of the former LABEL", x.over(0, 1, 1, 0, 1, NONE, NONE), 0);
            Checks.say(x, "bb");
            due("no GUEST of the former LABEL", x.ways(), 0);
            x.marks(3, 0, 0);
            due("no GUEST of the former LABEL", x.ways(), 0);
            due("no GUEST of the former LABEL", Checks.test(x, "3;2 0 0;"), -101);
            checks.about("4: in place of one that was refused, [" + text + "] ahead of it");
            CrossReader y = new CrossReader();
            Checks.grammar(y, "tree(S s);tree(A a);tree(S b S*);tree(S a);?");
            Checks.grammar(y, text);
            due("TREES", Checks.grammar(y, "tree(S A^ s);tree(B a);tree(T b T*);tree(U a);"), 4);
            Checks.say(y, "as");
            due("as", y.ways(), 0);
            Checks.say(y, "ba");
            due("ba", y.ways(), 0);
            Checks.say(y, "a");
            due("a", y.ways(), 0);
        }
    }

    private void grammarRefused() {
        String former = "tree(S(S .)(T b));tree(S a S*);tree(T! T* c);";
        String[] faulty = {"?", "tree(Q q)", "tree(Q+ q);tree(R R*);", "tree(Q+ q);tree(R(R R*)(R R* r));",
            ELEVEN + " q r)))))))))));", "tree(Z z);".repeat(9)};
        for (String text : faulty) {
            checks.about("4: a FAULT (all else stays) [" + text + "]");
            CrossReader x = Checks.reader(former, "aabc");
            x.marks(0, 1, 2);
            x.marks(2, 0, 0);
            x.out(2, 1);
            x.out(2, 0);
            x.out(1, 1);
            x.out(1, 0);
            x.marks(1, 0, 1);
            x.tell(0);
            x.out(2, 1);
            String before = Checks.told(x) + Checks.seen(x);
            due("grammar()", Checks.grammar(x, text), -4);
            due("the TAPE (empty then)", x.count(8), 0);
            checks.due("all else", Checks.told(x) + Checks.seen(x), before);
            due("count(5)", x.count(5), 4);
            x.out(2, 0);
            due("what the former one reads", x.ways(), 1);
        }
        checks.about("4: a refused one, nothing having been said");
        CrossReader x = new CrossReader();
        due("grammar()", Checks.grammar(x, "tree(S a"), -4);
        due("count(0)", x.count(0), 0);
        due("count(6)", x.count(6), NONE);
        due("count(7)", x.count(7), 0);
        due("tree(0, 0)", x.tree(0, 0), -2);
    }

    private void faultAnswers() {
        checks.about("5: ahead of any");
        CrossReader x = new CrossReader();
        lookAtFault(x, 0, NONE);
        checks.about("5: of the latest grammar()");
        Checks.grammar(x, "tree(S S^);");
        lookAtFault(x, 4, 9);
        Checks.say(x, "A");
        Checks.test(x, "?");
        lookAtFault(x, 4, 9);
        Checks.grammar(x, "?tree(S a);");
        lookAtFault(x, 1, 0);
        checks.about("5: 0 without, NONE without");
        Checks.grammar(x, "tree(S a);");
        lookAtFault(x, 0, NONE);
        Checks.grammar(x, "tree(T*);");
        lookAtFault(x, 1, 6);
        x.grammar();
        lookAtFault(x, 0, NONE);
    }

    private void lookAtFault(CrossReader x, int kind, int place) {
        due("fault(0)", x.fault(0), kind);
        due("fault(1)", x.fault(1), place);
        due("fault(2)", x.fault(2), NONE);
        due("fault(-1)", x.fault(-1), NONE);
        due("fault of the least", x.fault(LEAST), NONE);
        due("fault of the greatest", x.fault(GREATEST), NONE);
    }

    // ---- promises 6, 7

    private void sayEdges() {
        String grammar = "tree(S(S a(S b c))(S d T^));tree(T w(T x(T y z)));tree(S! .);tree(S! a);";
        CrossReader x = Checks.reader(grammar, "");
        checks.about("6: how many LETTERS");
        due("none", x.ways(), 1);
        due("one", Checks.say(x, "a"), 1);
        due("reads()", x.reads(), 1);
        due("eight, the first and the last LETTERS", Checks.say(x, "abcdwxyz"), 8);
        due("reads()", x.reads(), 1);
        due("the TAPE (empty then)", x.count(8), 0);
        checks.about("6: a byte that is none, more than 8 (it stays)");
        String[] refused = {"a".repeat(9), "a".repeat(400), "`", "{", "A", "Z", " ", "a ", " a", "a\n", "abcdefg`",
            "{bcdefgh", "" + (char) 0, "" + (char) 255, "" + (char) ('a' + 128), "aaaaaaaaA", "."};
        for (String text : refused) {
            due("say() of [" + text + "]", Checks.say(x, text), -4);
            due("the TAPE (empty then)", x.count(8), 0);
            due("count(2)", x.count(2), 8);
            due("reads()", x.reads(), 1);
        }
        due("whose stays, too", x.whose(0, 7, 1), 6);
        due("no bytes: no LETTERS", x.say(), 0);
        due("count(2)", x.count(2), 0);
        due("reads()", x.reads(), 1);
    }

    private void countEdges() {
        checks.about("7: of eight TREES");
        CrossReader x = Checks.reader(EIGHT, "");
        int[] counts = {8, 19, 0, 0x7d, 0x82, 0, 0, 1 | 1 << 25 | 60, 0, 0};
        for (int what = 0; what < counts.length; what++) {
            due("count(" + what + ")", x.count(what), counts[what]);
        }
        checks.about("7: NONE for others");
        for (int what : new int[] {-1, 10, 11, 32, LEAST, GREATEST}) {
            due("count(" + what + ")", x.count(what), NONE);
        }
        checks.about("7: those that are OUT, as bits");
        for (int tree = 0; tree < 8; tree++) {
            x.out(tree, 1);
            due("count(5)", x.count(5), (2 << tree) - 1);
        }
        due("TREES", x.count(0), 8);
        due("NODES", x.count(1), 19);
        due("LETTERS of OUT ones, too", x.count(7), 1 | 1 << 25 | 60);
        due("START of one that is OUT", x.count(6), 0);
        checks.about("7: START 0 .. 25, NONE without TREES");
        due("none", new CrossReader().count(6), NONE);
        due("Z", Checks.reader("tree(Z a Z*);tree(S b);", "").count(6), 25);
        due("all LETTERS but two", Checks.reader("tree(A a(A b c));tree(A d(A e f));tree(A g(A h i));tree(A j(A k l));"
            + "tree(A m(A n o));tree(A p(A q r));tree(A s(A t u));tree(A v(A w z));", "").count(7), 0x3ffffff ^ 3 << 23);
        checks.about("7: bytes of the TAPE, of OUT");
        Checks.tape(x, " ".repeat(400));
        due("count(8)", x.count(8), 400);
        due("count(9) ahead of any", x.count(9), 0);
    }

    // ---- promises 8 to 11

    private void treeEdges() {
        checks.about("8: of a TREE");
        CrossReader x = Checks.reader(EIGHT + "\n", "");
        int[][] trees = {{0, 2, 0, NONE, 1, 0}, {1, 3, 1, 2, 1, 0}, {0, 2, 0, NONE, NONE, 0}, {0, 3, 2, NONE, 2, 1}};
        for (int tree = 0; tree < trees.length; tree++) {
            for (int what = 0; what < 6; what++) {
                due("tree(" + tree + ", " + what + ")", x.tree(tree, what), trees[tree][what]);
            }
        }
        due("the last one's LABEL", x.tree(7, 2), 25);
        due("the last one is a GUEST", x.tree(7, 0), 1);
        due("the last one's FOOT", x.tree(7, 3), 2);
        x.out(7, 1);
        due("one that is OUT", x.tree(7, 1), 3);
        checks.about("8: -2: there are none such");
        for (int tree : new int[] {-1, 8, 9, 32, LEAST, GREATEST}) {
            due("tree(" + tree + ", 0)", x.tree(tree, 0), -2);
        }
        for (int what : new int[] {-1, 6, 32, LEAST, GREATEST}) {
            due("tree(0, " + what + ")", x.tree(0, what), -2);
        }
        checks.about("8: five PLACES, the FOOT as the last NODE, the LETTER as the last");
        CrossReader y = Checks.reader("tree(S(S S^ S^)(S S^(S S^(S S^ z))));tree(S(S(S(S(S(S(S(S(S(S a S*))))))))));", "");
        due("NODES", y.tree(0, 1), 11);
        due("PLACES", y.tree(0, 5), 5);
        due("first LETTER", y.tree(0, 4), 10);
        due("NODES", y.tree(1, 1), 12);
        due("FOOT", y.tree(1, 3), 11);
        due("first LETTER", y.tree(1, 4), 10);
    }

    private void nodeEdges() {
        checks.about("9: of a NODE");
        CrossReader x = Checks.reader("tree(A+(Z .));tree(B(B!(B B* a)b)B^);", "");
        int[][] nodes = {{0, 0, 2, 1, NONE, NONE, 0}, {0, 25, 0, 2, NONE, 0, 0}, {2, NONE, 0, NONE, NONE, 1, 0}};
        int[][] others = {{0, 1, 0, 1, 6, NONE, 1}, {0, 1, 1, 2, 5, 0, 1}, {0, 1, 0, 3, 4, 1, 1}, {3, 1, 0, NONE, NONE, 2, 1},
            {1, 0, 0, NONE, NONE, 2, 0}, {1, 1, 0, NONE, NONE, 1, 0}, {4, 1, 0, NONE, NONE, 0, 0}};
        for (int what = 0; what < 7; what++) {
            for (int node = 0; node < nodes.length; node++) {
                due("node(0, " + node + ", " + what + ")", x.node(0, node, what), nodes[node][what]);
            }
            for (int node = 0; node < others.length; node++) {
                due("node(1, " + node + ", " + what + ")", x.node(1, node, what), others[node][what]);
            }
        }
        checks.about("9: -2: there are none such");
        due("the next TREE's is not this one's", x.node(0, 3, 0), -2);
        due("the former TREE's is not this one's", x.node(1, -1, 0), -2);
        due("behind the last", x.node(1, 7, 0), -2);
        for (int other : new int[] {-1, 2, 8, 32, LEAST, GREATEST}) {
            due("node(" + other + ", 0, 0)", x.node(other, 0, 0), -2);
            due("node(0, 3 or " + other + ", 0)", x.node(0, other == 2 ? 3 : other, 0), -2);
            due("node(0, 0, 7 or " + other + ")", x.node(0, 0, other == 2 ? 7 : other), -2);
        }
    }

    private void outEdges() {
        checks.about("10: 1 if it was otherwise, else 0");
        CrossReader x = Checks.reader(EIGHT, "a");
        due("no more, though it was not", x.out(0, 0), 0);
        due("OUT", x.out(0, 1), 1);
        due("OUT again", x.out(0, 1), 0);
        due("reads()", x.reads(), 0);
        due("no more", x.out(0, 0), 1);
        due("reads()", x.reads(), 1);
        due("the last one", x.out(7, 1), 1);
        due("count(5)", x.count(5), 128);
        checks.about("10: -2: there are none such");
        String before = Checks.seen(x);
        for (int tree : new int[] {-1, 8, 32, 39, LEAST, GREATEST}) {
            due("out(" + tree + ", 1)", x.out(tree, 1), -2);
            due("out(" + tree + ", 0)", x.out(tree, 0), -2);
        }
        for (int on : new int[] {-1, 2, LEAST, GREATEST}) {
            due("out(0, " + on + ")", x.out(0, on), -2);
            due("out(7, " + on + ")", x.out(7, on), -2);
        }
        checks.due("nothing happened", Checks.seen(x), before);
    }

    private void marksEdges() {
        checks.about("11: which it was");
        CrossReader x = Checks.reader("tree(S!(S+ .)(S S^ a));tree(S b S*);", "ba");
        due("MARK 1", x.marks(0, 0, 1), 1);
        due("MARK 1, again", x.marks(0, 0, 2), 1);
        due("MARK 2", x.marks(0, 0, 0), 2);
        due("MARK 0", x.marks(0, 0, 0), 0);
        due("node(0, 0, 2)", x.node(0, 0, 2), 0);
        due("MARK 2 of another", x.marks(0, 1, 2), 2);
        due("a GUEST's", x.marks(1, 0, 2), 0);
        checks.about("11: -2: there are none such, it is no BRANCH");
        String before = Checks.seen(x);
        due("an EMPTY one", x.marks(0, 2, 0), -2);
        due("a PLACE", x.marks(0, 4, 0), -2);
        due("a LETTER", x.marks(0, 5, 0), -2);
        due("a FOOT", x.marks(1, 2, 0), -2);
        for (int other : new int[] {-1, 12, 32, LEAST, GREATEST}) {
            due("TREE " + other, x.marks(other, 0, 1), -2);
            due("NODE " + other, x.marks(0, other, 1), -2);
            due("MARK " + other, x.marks(0, 0, other), -2);
        }
        due("TREE 2", x.marks(2, 0, 1), -2);
        due("NODE 6, the next TREE's", x.marks(0, 6, 1), -2);
        due("MARK 3", x.marks(0, 0, 3), -2);
        checks.due("nothing happened", Checks.seen(x), before);
        checks.about("11: none such is no BRANCH's whatever mark");
        due("a LETTER, MARK 3", x.marks(0, 5, 3), -2);
    }

    // ---- terms I

    private void fault(String text, int kind, int place) {
        checks.about("I: [" + text + "]");
        CrossReader x = Checks.reader("tree(Q q);", "q");
        int got = Checks.grammar(x, text);
        due("grammar()", got, kind == 0 ? x.count(0) : -4);
        due("fault(0)", x.fault(0), kind);
        due("fault(1)", x.fault(1), place);
        due("what was there", kind == 0 ? 1 : x.ways(), 1);
    }

    private void good(String text) {
        fault(text, 0, NONE);
    }

    /** A .. Z, a .. z, blanks (32, 10), and what is just beside them. */
    private void signs() {
        good("tree(A a);tree(Z z);");
        fault("tree(@ a);", 1, 5);
        fault("tree([ a);", 1, 5);
        fault("tree(S `);", 1, 7);
        fault("tree(S {);", 1, 7);
        fault("tree(S @^a);", 1, 7);
        fault("tree(S [^a);", 1, 7);
        fault("tree(a a);", 1, 5);
        good(" \ntree \n( \nS \n! \n. \n) \n; \n");
        good("tree(S a S \n* );");
        good("tree(S a S\n^);");
        for (int sign : new int[] {0, 9, 11, 12, 13, 31, 33, 127, 138, 160, 255}) {
            fault((char) sign + "tree(S a);", 1, 0);
            fault("tree" + (char) sign + "(S a);", 1, 4);
            fault("tree(" + (char) sign + "S a);", 1, 5);
            fault("tree(S " + (char) sign + "a);", sign == 33 ? 0 : 1, sign == 33 ? NONE : 7);
            fault("tree(S a" + (char) sign + ");", 1, 8);
            fault("tree(S a S" + (char) sign + "*);", 1, 10);
            fault("tree(S a)" + (char) sign + ";", 1, 9);
            fault("tree(S a);" + (char) sign, 1, 10);
        }
        fault("tree(S " + (char) ('a' + 128) + ");", 1, 7);
        fault("tree(" + (char) ('S' + 128) + " a);", 1, 5);
        fault((char) ('t' + 128) + "ree(S a);", 1, 0);
    }

    /** Where a LINE begins the four bytes tree are the word, whatever follows. */
    private void words() {
        good("tree(S a);tree(S b);");
        good("tree(S a);\n tree\n(S b) ;");
        good("tree(S t r);tree(S e(S e t));");
        fault("treeS a);", 1, 4);
        fault("treee(S a);", 1, 4);
        fault("treetree(S a);", 1, 4);
        fault("tree tree(S a);", 1, 5);
        fault("tre", 1, 0);
        fault("tre e(S a);", 1, 0);
        fault("Tree(S a);", 1, 0);
        fault("tred(S a);", 1, 0);
        fault("trfe(S a);", 1, 0);
        fault("tsee(S a);", 1, 0);
        fault("(S a);", 1, 0);
        fault(";", 1, 0);
        fault("tree(S a);;", 1, 10);
        fault("tree(S a);tre", 1, 10);
        fault("tree(S a)tree(S b);", 1, 9);
        fault("tree", 1, 4);
        fault("tree ;", 1, 5);
        fault("tree \n ", 1, 7);
        fault("tree(S a) \n", 1, 11);
        fault("tree(S a", 1, 8);
        fault("tree(S ", 1, 7);
        fault("tree(S", 1, 6);
        fault("tree(", 1, 5);
        fault("tree(S a S", 1, 10);
        fault("tree(S tree);", 1, 9);
        fault("tree(S a;", 1, 8);
        fault("tree(S a b;", 1, 10);
        fault("tree(S(S a);", 1, 11);
    }

    /** ( LABEL [MARK] CHILD [CHILD] ). */
    private void branches() {
        good("tree(S a);");
        good("tree(S a b);");
        good("tree(S!a);tree(S + a);");
        fault("tree();", 1, 5);
        fault("tree(S);", 1, 6);
        fault("tree(S!);", 1, 7);
        fault("tree(S a());", 1, 9);
        fault("tree(S a(T));", 1, 10);
        fault("tree(S a b c);", 1, 11);
        fault("tree(S a b .);", 1, 11);
        fault("tree(S a b(S c));", 1, 10);
        fault("tree(S a b S*);", 1, 11);
        fault("tree(S a b S^);", 1, 11);
        fault("tree(S(S a)(S b)(S c));", 1, 16);
        fault("tree(!S a);", 1, 5);
        fault("tree(S!!a);", 1, 7);
        fault("tree(S!+a);", 1, 7);
        fault("tree(S++a);", 1, 7);
        fault("tree(S a!);", 1, 8);
        fault("tree(S a S!*);", 1, 10);
        fault("tree(S a S+^);", 1, 10);
        fault("tree(S *);", 1, 7);
        fault("tree(S ^a);", 1, 7);
        fault("tree(S a*);", 1, 8);
        fault("tree(S a S**);", 1, 11);
        fault("tree(S a S*^);", 1, 11);
        fault("tree(S a S);", 1, 10);
        fault("tree(S a S b);", 1, 11);
        fault("tree(S a T(S b));", 1, 10);
        fault("tree S a;", 1, 5);
        fault("tree S^;", 1, 5);
        fault("tree a;", 1, 5);
        fault("tree(S a));", 1, 9);
        fault("tree(S 1);", 1, 7);
    }

    /** 2: a second FOOT, one whose LABEL is not that of its TREE's NODE 0 (at its LABEL). */
    private void feet() {
        good("tree(S a S*);");
        good("tree(S(T a(U S*)));");
        good("tree(S a S*);tree(S S* b);tree(T T* c);");
        fault("tree(S a T*);", 2, 9);
        fault("tree(S a T \n *);", 2, 9);
        fault("tree(S(T a T*));", 2, 11);
        fault("tree(S S* S*);", 2, 10);
        fault("tree(S(S a S*)S*);", 2, 14);
        fault("tree(S S*(T a S*));", 2, 14);
        fault("tree(S S*(T a T*));", 2, 14);
        fault("tree(S a S*);tree(T a S*);", 2, 22);
        good("tree(S S*(T a S^));");
    }

    /** 3: a ninth TREE, at its word; a 13th NODE of a TREE, a 41st of all, at its first TOKEN. */
    private void tooMany() {
        String eight = "tree(S a);".repeat(8);
        good(eight);
        good(eight + "\n ");
        fault(eight + "tree(S a);", 3, 80);
        fault(eight + " tree", 3, 81);
        fault(eight + "tre(S a);", 1, 80);
        fault(eight + "x", 1, 80);
        String closing = ")))))))))));";
        good(ELEVEN + " a" + closing);
        fault(ELEVEN + " a b" + closing, 3, 29);
        fault(ELEVEN + " a ." + closing, 3, 29);
        fault(ELEVEN + " a S^" + closing, 3, 29);
        fault(ELEVEN + " a S*" + closing, 3, 29);
        fault(ELEVEN + " a(S" + closing, 3, 29);
        fault(ELEVEN + " a( \n S" + closing, 3, 32);
        fault(ELEVEN + "(S a)" + closing, 3, 29);
        good("tree(S a);" + ELEVEN + " a" + closing);
        good(TEN + TEN + TEN + TEN);
        good(TEN + TEN + TEN + "tree(S(S(S(S(S(S(S(S a b))))))));");
        fault(TEN + TEN + TEN + TEN + "tree(S a);", 3, 141);
        fault(TEN + TEN + TEN + TEN + "tree", 1, 140);
        fault(TEN + TEN + TEN + "tree(S(S(S(S(S(S(S(S(S a b)))))))));", 3, 127);
        fault(TEN + TEN + TEN + "tree(S(S(S(S(S(S(S(S(S a .)))))))));", 3, 127);
        fault(TEN + TEN + TEN + "tree(S(S(S(S(S(S(S(S(S a S*)))))))));", 3, 127);
        fault(TEN + TEN + TEN + "tree(S(S(S(S(S(S(S(S(S a S^)))))))));", 3, 127);
        fault(TEN + TEN + TEN + "tree(S(S(S(S(S(S(S(S(S a(S b))))))))));", 3, 127);
    }

    /** 4: a TREE with a FOOT or a PLACE, but without a LETTER, at its last ) . */
    private void lettersMissing() {
        fault("tree(S S*);", 4, 9);
        fault("tree(S S^);", 4, 9);
        fault("tree(S(S S*).);", 4, 13);
        fault("tree(S(S S^).) ;", 4, 13);
        fault("tree(S(S S*) S^ \n );", 4, 18);
        fault("tree(S(S(S S^)));", 4, 15);
        good("tree(S .);tree(S(S .)(S .));");
        good("tree(S a S*);tree(S a S^);tree(S(S S*)a);tree(S(S S^ S*)a);");
        fault("tree(S a);tree(S S^);", 4, 19);
        fault("tree(S S^);tree(S a);", 4, 9);
    }

    /** The first by its place, of one place the least. */
    private void firstFaults() {
        fault("tree(S S*)?", 4, 9);
        fault("tree(S S^?", 1, 9);
        fault("tree(S T* ?", 2, 7);
        fault("tree(S ? T*);", 1, 7);
        fault("tree(S S*);tree(S a T*);", 4, 9);
        fault("tree(S a T*);tree(S S*);", 2, 9);
        fault("tree(S(S S*)(S S*));", 2, 15);
        checks.about("I: one place: 1 ahead of 2, of 3");
        fault("tree(S a b T*);", 1, 11);
        fault(ELEVEN + " a b c" + ")))", 3, 29);
        fault("tree(S(S(S(S(S(S(S(S(S(S a b c", 1, 29);
        fault("tree(S(S(S(S(S(S(S(S(S(S a b(S", 1, 28);
        fault(ELEVEN + " a(?", 1, 29);
        fault(ELEVEN + " a(", 1, 29);
        fault(ELEVEN + " a *", 1, 29);
        checks.about("I: one place: 2 ahead of 3");
        fault(ELEVEN + " a T*", 2, 29);
        fault("tree(S(S(S(S(S(S(S(S(S(S a S*) S*", 2, 31);
        fault("tree(S(S(S(S(S(S(S(S(S(S S* a) S*", 2, 31);
        fault(TEN + TEN + TEN + "tree(S(S(S(S(S(S(S(S(S a T*)))))))));", 2, 127);
        checks.about("I: the ninth TREE ahead of what is behind its word");
        fault("tree(S a);".repeat(8) + "tree?", 3, 80);
    }
}
