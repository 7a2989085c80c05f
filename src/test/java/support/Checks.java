/** Compares answers with those that are due, and tells texts to a reader's tape. */
final class Checks {
    private int wrong = 0;
    private int all = 0;
    private String about = "";

    void about(String what) {
        about = what;
    }

    void due(String call, long got, long want) {
        all++;
        if (got != want) {
            fail(call + " answered " + got + ", due is " + want);
        }
    }

    void due(String call, String got, String want) {
        all++;
        if (!got.equals(want)) {
            fail(call + " answered [" + got + "], due is [" + want + "]");
        }
    }

    void fail(String what) {
        wrong++;
        if (wrong <= 40) {
            System.out.println(about + ": " + what);
        }
    }

    int wrongOnes() {
        return wrong;
    }

    void finish() {
        System.out.println(all + " answers looked at, " + wrong + " wrong");
        if (wrong != 0) {
            System.exit(1);
        }
    }

    /** The text comes behind the tape, whatever stands on it. */
    static void tape(CrossReader x, String text) {
        int before = x.count(8);
        for (int from = 0; from < text.length(); from += 20) {
            int[] five = new int[5];
            for (int i = 0; i < 20; i++) {
                int sign = from + i < text.length() ? text.charAt(from + i) : ' ';
                five[i / 4] = five[i / 4] << 8 | sign & 255;
            }
            x.feed(five[0], five[1], five[2], five[3], five[4]);
        }
        x.end(before + text.length());
    }

    static int grammar(CrossReader x, String text) {
        tape(x, text);
        return x.grammar();
    }

    static int say(CrossReader x, String text) {
        tape(x, text);
        return x.say();
    }

    static int test(CrossReader x, String text) {
        tape(x, text);
        return x.test();
    }

    static String told(CrossReader x) {
        StringBuilder text = new StringBuilder();
        for (int i = 0; x.octet(i) != CrossReader.NONE; i++) {
            text.append((char) x.octet(i));
        }
        return text.toString();
    }

    /** What an object tells of its trees, its sentence and its OUT, for calls behind which all stays. */
    static String seen(CrossReader x) {
        StringBuilder text = new StringBuilder();
        for (int what = 0; what < 10; what++) {
            text.append(what == 8 ? 0 : x.count(what)).append(' ');
        }
        for (int tree = 0; tree < x.count(0); tree++) {
            for (int node = 0; node < x.tree(tree, 1); node++) {
                text.append(x.node(tree, node, 0)).append(x.node(tree, node, 1)).append(x.node(tree, node, 2)).append(' ');
            }
        }
        return text.append(x.ways()).append(' ').append(x.heads()).append(' ').append(x.sentences(2)).toString();
    }

    static CrossReader reader(String grammar, String sentence) {
        CrossReader x = new CrossReader();
        grammar(x, grammar);
        say(x, sentence);
        return x;
    }
}
