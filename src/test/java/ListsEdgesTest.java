/** The edges that the document names of changes of one letter and of short sentences: promises 30 to 33. */
public final class ListsEdgesTest {
    private static final int NONE = CrossReader.NONE;
    private static final int LEAST = Integer.MIN_VALUE;
    private static final int GREATEST = Integer.MAX_VALUE;
    private static final String FOUR = "tree(S .);tree(S a S*);tree(S b S*);tree(S y S*);tree(S z S*);";

    private final Checks checks = new Checks();

    public static void main(String[] args) {
        ListsEdgesTest test = new ListsEdgesTest();
        test.mendsOfOthers();
        test.mendsOfAllTrees();
        test.mendsInOrder();
        test.mendsOfMany();
        test.mendRefused();
        test.mendsAsOfNow();
        test.mendsLeaveTheRest();
        test.sentencesOfEachLength();
        test.sentencesOnce();
        test.sentenceDigits();
        test.sentenceOrder();
        test.sentencesRefused();
        test.sentencesOfManyLetters();
        test.sentencesAsOfNow();
        test.sentencesLeaveTheRest();
        test.checks.finish();
    }

    private void due(String call, long got, long want) {
        checks.due(call, got, want);
    }

    private void lookAtMends(CrossReader x, int... mends) {
        due("mends()", x.mends(), mends.length);
        for (int k = 0; k < mends.length; k++) {
            due("mend(" + k + ")", x.mend(k), mends[k]);
        }
        due("mend behind the last", x.mend(mends.length), NONE);
    }

    // ---- promises 30, 31

    private void mendsOfOthers() {
        checks.about("30: changes of one LETTER to another one by which it is READ");
        lookAtMends(Checks.reader("tree(S a b);", "ab"));
        lookAtMends(Checks.reader("tree(S a b);", "aa"), 101);
        lookAtMends(Checks.reader("tree(S a b);", "bb"), 0);
        lookAtMends(Checks.reader("tree(S a b);", "ba"));
        lookAtMends(Checks.reader("tree(S a b);", "a"));
        lookAtMends(Checks.reader("tree(S a b);", "aba"));
        lookAtMends(Checks.reader("tree(S a b);", "zb"), 0);
        lookAtMends(Checks.reader("tree(S a b);", "zz"));
        checks.about("30: a SENTENCE that is READ has those to others alone");
        lookAtMends(Checks.reader("tree(S a);tree(S b);", "a"), 1);
        lookAtMends(Checks.reader("tree(S a);tree(S b);", "b"), 0);
        checks.about("30: a change is one, in however many ways it is READ");
        lookAtMends(Checks.reader("tree(S a);tree(S a);tree(S(S a));", "b"), 0);
        checks.about("30: no LETTERS, no TREES");
        lookAtMends(Checks.reader("tree(S .);", ""));
        lookAtMends(Checks.reader("tree(S a);", ""));
        lookAtMends(Checks.reader("", "a"));
        lookAtMends(new CrossReader());
    }

    private void mendsOfAllTrees() {
        checks.about("30: to another one of count() 7");
        CrossReader x = Checks.reader("tree(S a);tree(T b);tree(S c);", "d");
        lookAtMends(x, 0, 2);
        x.out(0, 1);
        lookAtMends(x, 2);
        x.out(2, 1);
        lookAtMends(x);
        checks.about("30: to a LETTER of a GUEST, of a HOST for a PLACE");
        CrossReader y = Checks.reader("tree(S A^ s);tree(A a);tree(S! S* z);", "qs");
        lookAtMends(y, 0);
        Checks.say(y, "asq");
        lookAtMends(y, 225);
        checks.about("30: not by what MARKS bar");
        y.marks(0, 0, 1);
        lookAtMends(y);
    }

    private void mendsInOrder() {
        checks.about("31: by places, then LETTERS: 100 times the place and the LETTER");
        CrossReader x = Checks.reader("tree(S! a S*);tree(S! z S*);tree(S b);tree(S y);", "b");
        lookAtMends(x, 24);
        x.marks(0, 0, 0);
        x.marks(1, 0, 0);
        Checks.say(x, "aaaaaaab");
        lookAtMends(x, 25, 125, 225, 325, 425, 525, 625, 724);
        Checks.say(x, "mab");
        lookAtMends(x, 0, 25);
        Checks.say(x, "amb");
        lookAtMends(x, 100, 125);
        Checks.say(x, "azm");
        lookAtMends(x, 201, 224);
        Checks.say(x, "azb");
        lookAtMends(x, 25, 100, 224);
        Checks.say(x, "mmb");
        lookAtMends(x);
    }

    /** More changes are there than a row of 64 holds; those to a letter of no tree are none. */
    private void mendsOfMany() {
        checks.about("30: many changes");
        CrossReader x = Checks.reader("tree(S .);tree(S a S*);tree(S b S*);tree(S c S*);tree(S d S*);tree(S e S*);tree(S(S f(S g h))(S i j));"
            + "tree(S z S*);", "aaaaaaaa");
        int[] letters = {1, 2, 3, 4, 25};
        int[] due = new int[40];
        for (int k = 0; k < 40; k++) {
            due[k] = 100 * (k / 5) + letters[k % 5];
        }
        lookAtMends(x, due);
        Checks.say(x, "zzzzzzzf");
        lookAtMends(x, 700, 701, 702, 703, 704, 725);
        Checks.say(x, "fghim");
        lookAtMends(x, 409);
        Checks.say(x, "mghij");
        lookAtMends(x, 5);
    }

    private void mendRefused() {
        checks.about("31: NONE: not so many; -2: k is below 0");
        CrossReader x = Checks.reader("tree(S a);tree(S b);tree(S c);", "a");
        due("mend(1)", x.mend(1), 2);
        for (int k : new int[] {2, 3, 64, 255, 256, 257, GREATEST}) {
            due("mend(" + k + ")", x.mend(k), NONE);
        }
        for (int k : new int[] {-1, -2, LEAST}) {
            due("mend(" + k + ")", x.mend(k), -2);
            due("without any, mend(" + k + ")", new CrossReader().mend(k), -2);
        }
    }

    private void mendsAsOfNow() {
        checks.about("30: as of now");
        CrossReader x = Checks.reader("tree(S a a);tree(S! b S*);tree(S c);", "ac");
        lookAtMends(x, 1, 100);
        Checks.say(x, "ca");
        lookAtMends(x, 0);
        x.marks(2, 0, 1);
        Checks.say(x, "ac");
        lookAtMends(x, 100);
        x.marks(2, 0, 2);
        lookAtMends(x, 1, 100);
        x.out(0, 1);
        lookAtMends(x, 1);
        x.out(0, 0);
        lookAtMends(x, 1, 100);
        due("a text that is refused", Checks.grammar(x, "tree(S c c)"), -4);
        lookAtMends(x, 1, 100);
        Checks.grammar(x, "tree(S c c);");
        lookAtMends(x, 2);
        due("a text that is refused", Checks.say(x, "CC"), -4);
        lookAtMends(x, 2);
    }

    private void mendsLeaveTheRest() {
        checks.about("30: what would be is not");
        CrossReader x = Checks.reader("tree(S a b);tree(S! b a);", "ab");
        due("tell(0)", x.tell(0), 7);
        due("steps(0)", x.steps(0), 1);
        due("mends()", x.mends(), 0);
        due("ways()", x.ways(), 1);
        due("whose(0, 1, 1)", x.whose(0, 1, 1), 2);
        due("step(0, 0, 0)", x.step(0, 0, 0), 0);
        due("used(0)", x.used(0), 1);
        due("over", x.over(0, 1, 0, 0, 1, NONE, NONE), 1);
        due("items(0)", x.items(0), 5);
        checks.due("told", Checks.told(x), "(S a b)");
    }

    // ---- promises 32, 33

    private void lookAtSentences(CrossReader x, int m, int... codes) {
        due("sentences(" + m + ")", x.sentences(m), codes.length);
        for (int k = 0; k < codes.length; k++) {
            due("sentence(" + m + ", " + k + ")", x.sentence(m, k), codes[k]);
        }
        due("sentence(" + m + ", " + codes.length + ")", x.sentence(m, codes.length), NONE);
    }

    private static int code(String letters) {
        int code = 0;
        for (int i = 0; i < letters.length(); i++) {
            code = 27 * code + letters.charAt(i) - 'a' + 1;
        }
        return code;
    }

    private void sentencesOfEachLength() {
        checks.about("32: m 0 .. 4 LETTERS");
        CrossReader x = Checks.reader("tree(S! .);tree(S! a);tree(S! a b);tree(S!(S! b c)a);tree(S!(S! c c)(S! a b));tree(S!(S!(S! a a)(S! a a))a);", "");
        lookAtSentences(x, 0, 0);
        lookAtSentences(x, 1, 1);
        lookAtSentences(x, 2, code("ab"));
        lookAtSentences(x, 3, code("bca"));
        lookAtSentences(x, 4, code("ccab"));
        x.out(0, 1);
        lookAtSentences(x, 0);
        checks.about("32: no TREES, no LETTERS in them");
        for (int m = 0; m <= 4; m++) {
            lookAtSentences(new CrossReader(), m);
        }
        CrossReader empty = Checks.reader("tree(S .);", "a");
        lookAtSentences(empty, 0, 0);
        for (int m = 1; m <= 4; m++) {
            lookAtSentences(empty, m);
        }
    }

    private void sentencesOnce() {
        checks.about("32: a SENTENCE is one, in however many WAYS it is READ");
        CrossReader x = Checks.reader("tree(S a);tree(S a);tree(S(S a));tree(S(S b a));tree(S a S*);", "");
        lookAtSentences(x, 1, 1);
        lookAtSentences(x, 2, code("aa"), code("ba"));
        lookAtSentences(x, 3, code("aaa"), code("aba"));
        checks.about("32: that are READ: by HOSTS with the LABEL START");
        CrossReader y = Checks.reader("tree(S! a S*);tree(T b);tree(S+ c);", "");
        lookAtSentences(y, 1);
        lookAtSentences(y, 2, code("ac"));
    }

    private void sentenceDigits() {
        checks.about("33: LETTERS as digits 1 .. 26 by 27, the first highest (0: none)");
        CrossReader x = Checks.reader(FOUR, "");
        due("none", x.sentence(0, 0), 0);
        due("a", x.sentence(1, 0), 1);
        due("z", x.sentence(1, 3), 26);
        due("ab", x.sentence(2, 1), 29);
        due("ba", x.sentence(2, 4), 55);
        due("zz", x.sentence(2, 15), 728);
        due("aaa", x.sentence(3, 0), 757);
        due("zzz", x.sentence(3, 63), 19682);
        due("aaaa", x.sentence(4, 0), 20440);
        due("aaaz", x.sentence(4, 3), 20465);
        due("zaaa", x.sentence(4, 192), 512515);
        due("zzzz", x.sentence(4, 255), 531440);
    }

    private void sentenceOrder() {
        checks.about("33: by LETTERS from the first on");
        CrossReader x = Checks.reader(FOUR, "");
        String letters = "abyz";
        int many = 1;
        for (int m = 0; m <= 4; m++) {
            int[] codes = new int[many];
            for (int k = 0; k < many; k++) {
                StringBuilder text = new StringBuilder();
                for (int rest = k, place = 0; place < m; place++, rest /= 4) {
                    text.insert(0, letters.charAt(rest % 4));
                }
                codes[k] = code(text.toString());
            }
            // An object has 512 calls: each length has one of its own.
            lookAtSentences(m == 4 ? Checks.reader(FOUR, "") : x, m, codes);
            many *= 4;
        }
        CrossReader backwards = Checks.reader("tree(S! z a);tree(S! a z);tree(S! z z);tree(S! b a);", "");
        lookAtSentences(backwards, 2, code("az"), code("ba"), code("za"), code("zz"));
    }

    private void sentencesRefused() {
        checks.about("32: -2: m can't be");
        CrossReader x = Checks.reader(FOUR, "ab");
        for (int m : new int[] {-1, 5, 8, 32, LEAST, GREATEST}) {
            due("sentences(" + m + ")", x.sentences(m), -2);
            due("sentence(" + m + ", 0)", x.sentence(m, 0), -2);
            due("sentence(" + m + ", -1)", x.sentence(m, -1), -2);
            due("sentence(" + m + ", 999)", x.sentence(m, 999), -2);
            due("without TREES, sentences(" + m + ")", new CrossReader().sentences(m), -2);
        }
        checks.about("33: NONE: not so many; -2 (k below 0, too)");
        for (int m = 0; m <= 4; m++) {
            for (int k : new int[] {256, 257, 512, GREATEST}) {
                due("sentence(" + m + ", " + k + ")", x.sentence(m, k), NONE);
            }
            for (int k : new int[] {-1, -256, LEAST}) {
                due("sentence(" + m + ", " + k + ")", x.sentence(m, k), -2);
                due("without TREES", new CrossReader().sentence(m, k), -2);
            }
        }
    }

    private void sentencesOfManyLetters() {
        checks.about("32: -5: there are more than 4 unlike LETTERS in all TREES");
        CrossReader five = Checks.reader("tree(S a);tree(S b b);tree(T c);tree(S! d S*);tree(U e);", "");
        CrossReader four = Checks.reader("tree(S a);tree(S b b);tree(T c);tree(S! d S*);tree(U d a);", "");
        for (int turn = 0; turn < 2; turn++) {
            for (int m = 0; m <= 4; m++) {
                due("of five, sentences(" + m + ")", five.sentences(m), -5);
                due("of five, sentence(" + m + ", 0)", five.sentence(m, 0), -5);
                due("of five, sentence(" + m + ", 999)", five.sentence(m, 999), -5);
            }
            // those of trees that are OUT, too
            five.out(4, 1);
        }
        lookAtSentences(four, 0);
        lookAtSentences(four, 1, 1);
        lookAtSentences(four, 2, code("bb"), code("da"));
        checks.about("32, 33: -2 ahead of -5");
        due("m -1", five.sentences(-1), -2);
        due("m 5", five.sentences(5), -2);
        due("m -1", five.sentence(-1, 0), -2);
        due("m 5", five.sentence(5, 0), -2);
        due("k -1", five.sentence(0, -1), -2);
        due("k the least", five.sentence(4, LEAST), -2);
        checks.about("32: one of them no more");
        Checks.grammar(five, "tree(S a);");
        due("sentences(1)", five.sentences(1), 1);
        Checks.grammar(four, "tree(S a(S b c));tree(S d(S e z));");
        due("sentences(1)", four.sentences(1), -5);
    }

    private void sentencesAsOfNow() {
        checks.about("32: as of now");
        CrossReader x = Checks.reader("tree(S a);tree(S! b S*);tree(S c);", "");
        lookAtSentences(x, 1, 1, 3);
        lookAtSentences(x, 2, code("ba"), code("bc"));
        lookAtSentences(x, 3);
        x.marks(1, 0, 0);
        lookAtSentences(x, 3, code("bba"), code("bbc"));
        x.marks(0, 0, 1);
        lookAtSentences(x, 2, code("bc"));
        lookAtSentences(x, 1, 1, 3);
        x.marks(2, 0, 2);
        lookAtSentences(x, 1, 1);
        x.out(0, 1);
        lookAtSentences(x, 1);
        x.out(0, 0);
        lookAtSentences(x, 1, 1);
        due("a text that is refused", Checks.grammar(x, "tree(S q)"), -4);
        lookAtSentences(x, 1, 1);
        Checks.grammar(x, "tree(S q);");
        lookAtSentences(x, 1, 17);
        checks.about("32: whatever the SENTENCE is");
        Checks.say(x, "qqqqqqqq");
        lookAtSentences(x, 1, 17);
        lookAtSentences(x, 2);
        Checks.say(x, "");
        lookAtSentences(x, 1, 17);
    }

    private void sentencesLeaveTheRest() {
        checks.about("32: the SENTENCE and its WAYS stay");
        CrossReader x = Checks.reader("tree(S a b);tree(S! b S*);", "bab");
        due("tell(0)", x.tell(0), 13);
        due("mends()", x.mends(), 0);
        due("sentences(4)", x.sentences(4), 0);
        due("sentences(3)", x.sentences(3), 1);
        due("ways()", x.ways(), 1);
        due("steps(0)", x.steps(0), 2);
        due("whose(0, 0, 0)", x.whose(0, 0, 0), 1);
        due("count(2)", x.count(2), 3);
        due("lengths(1)", x.lengths(1), 2);
        due("mends()", x.mends(), 0);
        checks.due("told", Checks.told(x), "(S b (S a b))");
    }
}
