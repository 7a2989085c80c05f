import java.util.Random;

/** Faults of texts against the reference's parser, and calls with any arguments, none of which may throw. */
public final class FaultsTest {
    private static final String[] TEXTS = {
        "tree (S .);tree (S! a (S b S* b) a);tree (S! c (S d S* d) c);",
        "tree (S A^(B S^ x));tree(A a);tree(A .);tree (B b);tree(S! x S*);",
        "tree (S (S (S (S (S (S (S (S (S (S (S a)))))))))));tree (S (S (S (S (S (S (S (S (S (S a S*))))))))));"
            + "tree (S (S (S (S (S (S (S (S (S (S b S*))))))))));tree (S a b);tree (T .);",
        "tree(A+ a);tree(B+ A^(C! b .));tree (A (A! A* .) c);\ntree (C(C C* c));",
        "tree (S a);tree (S a);tree (S a);tree (S a);tree (S a);tree (S a);tree (S a);tree (S a);"
    };
    private static final String SIGNS = "tree();;..**^^!+abzABSTZ \n()S*A^";

    private final Checks checks = new Checks();
    private final Random random = new Random(34);
    private final int[] kinds = new int[5];

    public static void main(String[] args) {
        FaultsTest test = new FaultsTest();
        int rounds = args.length > 0 ? Integer.parseInt(args[0]) : 40000;
        for (int round = 0; round < rounds; round++) {
            test.lookAtFault(test.randomText());
        }
        test.lookAtKnownFaults();
        System.out.println("without " + test.kinds[0] + ", kinds 1 .. 4: " + test.kinds[1] + " " + test.kinds[2] + " "
            + test.kinds[3] + " " + test.kinds[4]);
        for (int round = 0; round < 20000; round++) {
            test.lookAtStepsText(test.randomSteps());
        }
        for (int round = 0; round < 400; round++) {
            test.callAnything();
        }
        test.checks.finish();
    }

    private int pick(int most) {
        return random.nextInt(most);
    }

    private String randomText() {
        StringBuilder text = new StringBuilder(TEXTS[pick(TEXTS.length)]);
        int changes = pick(4);
        for (int change = 0; change < changes && text.length() > 0; change++) {
            int at = pick(text.length());
            char sign = pick(30) == 0 ? (char) pick(256) : SIGNS.charAt(pick(SIGNS.length()));
            switch (pick(5)) {
                case 0:
                    text.setCharAt(at, sign);
                    break;
                case 1:
                    text.insert(at, sign);
                    break;
                case 2:
                    text.deleteCharAt(at);
                    break;
                case 3:
                    String other = TEXTS[pick(TEXTS.length)];
                    int from = pick(other.length());
                    text.insert(at, other, from, Math.min(other.length(), from + pick(30)));
                    break;
                default:
                    text.setLength(pick(6) == 0 ? at + 1 : text.length());
                    break;
            }
        }
        if (text.length() > 400) {
            text.setLength(400);
        }
        return text.toString();
    }

    private void lookAtFault(String text) {
        checks.about("[" + text + "]");
        CrossReader x = Checks.reader("tree (X q);", "q");
        Reference r = new Reference();
        int kind = 0;
        int place = -1;
        try {
            r.parse(text);
        } catch (Reference.Fault fault) {
            kind = fault.kind;
            place = fault.place;
        }
        kinds[kind]++;
        int got = Checks.grammar(x, text);
        checks.due("grammar()", got, kind == 0 ? r.trees.size() : -4);
        checks.due("fault(0)", x.fault(0), kind);
        checks.due("fault(1)", x.fault(1), place);
        checks.due("count(8)", x.count(8), 0);
        checks.due("count(2)", x.count(2), 1);
        if (kind != 0) {
            checks.due("the former grammar's ways()", x.ways(), 1);
            checks.due("the former grammar's START", x.count(6), 'X' - 'A');
        }
    }

    private void fault(String text, int kind, int place) {
        checks.about("[" + text + "]");
        CrossReader x = new CrossReader();
        checks.due("grammar()", Checks.grammar(x, text), kind == 0 ? x.count(0) : -4);
        checks.due("fault(0)", x.fault(0), kind);
        checks.due("fault(1)", x.fault(1), place);
    }

    /** Faults whose places are counted by hand, not by the reference. */
    private void lookAtKnownFaults() {
        fault("", 0, -1);
        fault(" \n ", 0, -1);
        fault("treetree", 1, 4);
        fault("tree", 1, 4);
        fault("tree   ", 1, 7);
        fault("tree(S a) ;", 0, -1);
        fault("tre e(S a);", 1, 0);
        fault("tree(S a);x", 1, 10);
        fault("tree(S a)x", 1, 9);
        fault("tree(S a);\ntrex", 1, 11);
        fault("tree(S)", 1, 6);
        fault("tree(S!)", 1, 7);
        fault("tree(S! +a);", 1, 8);
        fault("tree(S a b c);", 1, 11);
        fault("tree(S a b (", 1, 11);
        fault("tree(S tree);", 1, 9);
        fault("tree((S a));", 1, 5);
        fault("tree(s a);", 1, 5);
        fault("tree(S A);", 1, 8);
        fault("tree(S A", 1, 8);
        fault("tree(S A *a);", 2, 7);
        fault("tree(S S *a);", 0, -1);
        fault("tree(S(S S*)(S S*));", 2, 15);
        fault("tree(S(S S*)S^);", 4, 14);
        fault("tree(S S*);", 4, 9);
        fault("tree(S(S S* ) );", 4, 14);
        fault("tree(S(S S^ ) )", 4, 14);
        fault("tree(S(S .)(S .)) ;", 0, -1);
        fault("tree(S a\t);", 1, 8);
        fault("tree(S " + (char) 225 + ");", 1, 7);
        fault("tree(S a*);", 1, 8);
        fault("tree(S .^);", 1, 8);
        fault("tree(S S^*);", 1, 9);
        String eleven = "tree(S(S(S(S(S(S(S(S(S(S(S";
        fault(eleven + " a)))))))))));", 0, -1);
        fault(eleven + " a b)))))))))));", 3, 29);
        fault(eleven + " a S*)))))))))));", 3, 29);
        fault(eleven + " a T*)))))))))));", 2, 29);
        fault(eleven + " a (T b", 3, 30);
        fault(eleven + " a (t b", 1, 30);
        fault(eleven + " a T?", 3, 29);
        fault(eleven + " a ?", 1, 29);
        fault(eleven + "(S(S a", 3, 29);
        fault(eleven + " S* S*", 2, 30);
        String full = "tree(S(S(S(S(S(S(S(S(S a)))))))));";
        fault(full + full + full + full, 0, -1);
        fault(full + full + full + full + "tree(S", 3, 4 * 34 + 5);
        fault(full + full + full + full + "tree(s", 1, 4 * 34 + 5);
        fault(full + full + full + "tree(S(S(S(S(S(S(S(S(S a b", 3, 3 * 34 + 25);
        String eight = TEXTS[4];
        fault(eight, 0, -1);
        fault(eight + " tree", 3, 89);
        fault(eight + " tre", 1, 89);
        fault(eight + ";", 1, 88);
    }

    /** Refused as no text just if it is none; what is told in OUT stays then. */
    private void lookAtStepsText(String text) {
        checks.about("[" + text + "]");
        String blanks = "[ \n]*";
        String three = blanks + "\\d+[ \n]+\\d+[ \n]+\\d+" + blanks + ";";
        boolean good = text.matches(blanks + "\\d+" + blanks + ";(" + three + ")*" + blanks);
        good &= text.chars().filter(sign -> sign == ';').count() <= 40;
        CrossReader x = Checks.reader("tree (S .);tree (S a S*);", "");
        x.tell(0);
        int got = Checks.test(x, text);
        checks.due("test() is -4", got == -4 ? 1 : 0, good ? 0 : 1);
        checks.due("the tape", x.count(8), 0);
        checks.due("OUT", got < 0 && !Checks.told(x).equals("(S .)") ? 1 : 0, 0);
    }

    private int any() {
        switch (pick(5)) {
            case 0: return pick(4) - 2;
            case 1: return pick(14) - 1;
            case 2: return random.nextInt();
            case 3: return pick(2) == 0 ? Integer.MIN_VALUE : Integer.MAX_VALUE;
            default: return pick(9);
        }
    }

    private long anyLong() {
        return pick(8) == 0 ? random.nextLong() : pick(8) == 0 ? Long.MIN_VALUE : pick(4) == 0 ? any() : pick(3);
    }

    private void callAnything() {
        CrossReader x = new CrossReader();
        for (int call = 0; call < 512; call++) {
            try {
                callOne(x, pick(40));
            } catch (RuntimeException | StackOverflowError thrown) {
                checks.about("calls of anything");
                checks.fail("threw " + thrown);
                return;
            }
        }
    }

    private void callOne(CrossReader x, int which) {
        switch (which) {
            case 0: x.feed(any(), any(), any(), any(), any()); break;
            case 1: x.end(any()); break;
            case 2: x.grammar(); break;
            case 3: x.fault(any()); break;
            case 4: x.say(); break;
            case 5: x.count(any()); break;
            case 6: x.tree(any(), any()); break;
            case 7: x.node(any(), any(), any()); break;
            case 8: x.out(any(), any()); break;
            case 9: x.marks(any(), any(), any()); break;
            case 10: x.over(any(), any(), any(), any(), any(), any(), any()); break;
            case 11: x.items(any()); break;
            case 12: x.spans(any(), any()); break;
            case 13: x.around(any(), any(), any(), any()); break;
            case 14: x.reads(); break;
            case 15: x.heads(); break;
            case 16: x.ways(); break;
            case 17: x.without(any()); break;
            case 18: x.lengths(any()); break;
            case 19: x.steps(anyLong()); break;
            case 20: x.step(anyLong(), any(), any()); break;
            case 21: x.whose(anyLong(), any(), any()); break;
            case 22: x.arcs(anyLong(), any()); break;
            case 23: x.grown(anyLong(), any()); break;
            case 24: x.tell(anyLong()); break;
            case 25: x.tellWay(anyLong()); break;
            case 26: x.octet(any()); break;
            case 27: x.test(); break;
            case 28: x.mends(); break;
            case 29: x.mend(any()); break;
            case 30: x.sentences(any()); break;
            case 31: x.sentence(any(), any()); break;
            case 32: x.used(any()); break;
            case 33: x.end(0); Checks.grammar(x, randomText()); break;
            case 34: x.end(0); Checks.grammar(x, TEXTS[pick(TEXTS.length)]); break;
            case 35: x.end(0); Checks.say(x, "abxabcda".substring(pick(4), 4 + pick(5))); break;
            case 36: x.end(0); Checks.say(x, "aaaaaaaa".substring(pick(9))); break;
            case 37: x.end(0); Checks.test(x, randomSteps()); break;
            case 38: x.tellWay(0); Checks.test(x, Checks.told(x)); break;
            default: Checks.tape(x, TEXTS[pick(TEXTS.length)].substring(0, 1 + pick(20))); break;
        }
    }

    private String randomSteps() {
        StringBuilder text = new StringBuilder();
        text.append(pick(9)).append(';');
        int steps = pick(50);
        for (int s = 0; s < steps && text.length() < 380; s++) {
            text.append(pick(9)).append(' ').append(pick(s + 2)).append(' ').append(pick(13)).append(';');
        }
        for (int change = pick(3); change > 0; change--) {
            text.insert(pick(text.length() + 1), pick(2) == 0 ? ' ' : '\n');
        }
        if (pick(5) == 0) {
            text.deleteCharAt(pick(text.length()));
        }
        if (pick(5) == 0) {
            text.setCharAt(pick(text.length()), SIGNS.charAt(pick(SIGNS.length())));
        }
        return text.toString();
    }
}
