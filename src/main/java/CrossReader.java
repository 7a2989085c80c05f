import java.util.Arrays;

/** Reads sentences by a grammar of small trees that are put into one another. */
public final class CrossReader {
    public static final int NONE = -1;
    public static final int TOO_GREAT = -3;

    private static final int NO_SUCH = -2;
    private static final int REFUSED = -4;
    private static final int MANY_LETTERS = -5;

    private static final int TAPE_ROOM = 400;
    private static final int FEED_BYTES = 20;
    private static final int TOLD_ROOM = 2048;
    private static final int TREE_ROOM = 8;
    private static final int TREE_NODE_ROOM = 12;
    private static final int NODE_ROOM = 40;
    private static final int LETTER_ROOM = 8;
    private static final int ALPHABET = 26;
    private static final int TEST_STEPS = 40;
    // A tree of 12 nodes has one letter and five places at most, so that eight letters make 41 steps.
    private static final int STEP_ROOM = 48;
    private static final int STACK_ROOM = 1024;
    private static final int TURNS = 4096;
    private static final long MOST_WAYS = 1000000000000000L;

    private static final int BRANCH = 0;
    private static final int LETTER = 1;
    private static final int EMPTY = 2;
    private static final int FOOT = 3;
    private static final int PLACE = 4;

    private static final int NO_GUEST = 1;
    private static final int MUST_GUEST = 2;

    private static final int BELOW = 0;
    private static final int ABOVE = 1;

    private static final int LONGEST_LISTED = 4;
    private static final int MOST_UNLIKE = 4;
    private static final int MENDS = LONGEST_LISTED + 1;
    private static final int FOUND_ROOM = 256;

    // What is known of the present state, as bits of the field known; found lists have bits 0 .. MENDS.
    private static final int KNOWN_LISTS = (1 << MENDS) - 1;
    private static final int KNOWN_COUNTS = 1 << (MENDS + 1);
    private static final int KNOWN_SUMMARY = 1 << (MENDS + 2);
    private static final int KNOWN_WAY = 1 << (MENDS + 3);

    private final Bytes tape = new Bytes(TAPE_ROOM);
    private final Bytes told = new Bytes(TOLD_ROOM);
    private final Bytes letters = new Bytes(LETTER_ROOM);
    private final GrammarReader grammarReader = new GrammarReader();
    private final StepsReader stepsReader = new StepsReader();
    private final Counting counting = new Counting(letters);
    private final Summary summary = new Summary(letters);
    private final Masks masks = new Masks();
    private final Chart counts = new Chart();
    private final Chart scratch = new Chart();
    private final WayFinder finder = new WayFinder();
    private final Way found = new Way();
    private final Way tried = new Way();
    private final int[][] listed = new int[MENDS + 1][FOUND_ROOM];
    private final int[] listedCount = new int[MENDS + 1];
    private Grammar present = new Grammar();
    private Grammar draft = new Grammar();
    private int known;
    private long summed;

    public CrossReader() {
        known = 0;
    }

    public int feed(int a, int b, int c, int d, int e) {
        if (tape.room() < FEED_BYTES) {
            return NONE;
        }
        tape.addFour(a);
        tape.addFour(b);
        tape.addFour(c);
        tape.addFour(d);
        tape.addFour(e);
        return tape.length;
    }

    public int end(int n) {
        if (n < 0 || n > tape.length) {
            return NONE;
        }
        tape.length = n;
        return n;
    }

    public int grammar() {
        boolean good = grammarReader.readText(tape, draft);
        tape.length = 0;
        if (!good) {
            return REFUSED;
        }
        Grammar former = present;
        present = draft;
        draft = former;
        known = 0;
        return present.trees;
    }

    public int fault(int what) {
        if (what == 0) {
            return grammarReader.faultKind;
        }
        return what == 1 ? grammarReader.faultPlace : NONE;
    }

    public int say() {
        boolean good = tape.length <= LETTER_ROOM;
        for (int i = 0; i < tape.length && good; i++) {
            good = isLetter(tape.at(i));
        }
        int size = tape.length;
        tape.length = 0;
        if (!good) {
            return REFUSED;
        }
        letters.length = 0;
        for (int i = 0; i < size; i++) {
            letters.add(tape.row[i] - 'a');
        }
        known &= KNOWN_LISTS;
        return size;
    }

    public int count(int what) {
        switch (what) {
            case 0: return present.trees;
            case 1: return present.nodes;
            case 2: return letters.length;
            case 3: return present.hosts;
            case 4: return present.guests;
            case 5: return present.absent;
            case 6: return present.startLabel();
            case 7: return present.letterBits;
            case 8: return tape.length;
            case 9: return told.length;
            default: return NONE;
        }
    }

    public int tree(int tree, int what) {
        if (!present.hasTree(tree)) {
            return NO_SUCH;
        }
        switch (what) {
            case 0: return present.guests >> tree & 1;
            case 1: return present.sizeOf(tree);
            case 2: return present.label[present.base[tree]];
            case 3: return present.firstOfKind(tree, FOOT);
            case 4: return present.firstOfKind(tree, LETTER);
            case 5: return present.placesOf(tree);
            default: return NO_SUCH;
        }
    }

    public int node(int tree, int node, int what) {
        if (!present.hasNode(tree, node)) {
            return NO_SUCH;
        }
        int base = present.base[tree];
        int at = base + node;
        switch (what) {
            case 0: return present.kind[at];
            case 1: return present.label[at];
            case 2: return present.mark[at];
            case 3: return within(base, present.first[at]);
            case 4: return within(base, present.second[at]);
            case 5: return within(base, present.above[at]);
            case 6: return present.footed[at] ? 1 : 0;
            default: return NO_SUCH;
        }
    }

    public int out(int tree, int on) {
        if (!present.hasTree(tree) || on < 0 || on > 1) {
            return NO_SUCH;
        }
        if ((present.absent >> tree & 1) == on) {
            return 0;
        }
        present.absent ^= 1 << tree;
        known = 0;
        return 1;
    }

    public int marks(int tree, int node, int mark) {
        if (!present.hasNode(tree, node) || mark < 0 || mark > MUST_GUEST) {
            return NO_SUCH;
        }
        int at = present.base[tree] + node;
        if (present.kind[at] != BRANCH) {
            return NO_SUCH;
        }
        int former = present.mark[at];
        present.mark[at] = mark;
        if (former != mark) {
            known = 0;
        }
        return former;
    }

    public long over(int tree, int node, int half, int i, int j, int p, int q) {
        if (!present.hasNode(tree, node) || half < BELOW || half > ABOVE) {
            return NO_SUCH;
        }
        int at = present.base[tree] + node;
        boolean gap = present.footed[at];
        if (gap ? !isGap(i, j, p, q) : !isSpan(i, j) || p != NONE || q != NONE) {
            return NO_SUCH;
        }
        knowCounts();
        return shown(counts.value(at, half, i, j, gap ? p : j, gap ? q : j));
    }

    public int items(int half) {
        if (half < BELOW || half > ABOVE) {
            return NO_SUCH;
        }
        knowCounts();
        return counts.itemsOf(half);
    }

    public int spans(int i, int j) {
        if (!isSpan(i, j)) {
            return NO_SUCH;
        }
        knowCounts();
        return counts.rootsOver(present.hosts, i, j, j, j);
    }

    public int around(int i, int j, int p, int q) {
        if (!isGap(i, j, p, q)) {
            return NO_SUCH;
        }
        knowCounts();
        return counts.rootsOver(present.guests, i, j, p, q);
    }

    public int reads() {
        return countedWays() == 0 ? 0 : 1;
    }

    public int heads() {
        knowCounts();
        int bits = 0;
        for (int m = 0; m <= letters.length; m++) {
            if (counts.atStart(m) != 0) {
                bits |= 1 << m;
            }
        }
        return bits;
    }

    public long ways() {
        return shown(countedWays());
    }

    public long without(int tree) {
        if (!present.hasTree(tree)) {
            return NO_SUCH;
        }
        scratch.fill(present, present.absent | 1 << tree, letters.length, counting);
        return shown(scratch.atStart(letters.length));
    }

    public int lengths(int what) {
        if (what < 0 || what > 1) {
            return NO_SUCH;
        }
        knowSummary();
        if (summed == 0) {
            return NONE;
        }
        return what == 0 ? Summary.fewest(summed) : Summary.most(summed);
    }

    public int steps(long k) {
        int refusal = findWay(k);
        return refusal < 0 ? refusal : found.size;
    }

    public int step(long k, int i, int what) {
        int refusal = findWay(k);
        if (refusal < 0) {
            return refusal;
        }
        if (i < 0 || i >= found.size) {
            return NO_SUCH;
        }
        switch (what) {
            case 0: return found.treeOf[i];
            case 1: return found.into[i];
            case 2: return found.at[i];
            case 3: return found.head[i];
            default: return NO_SUCH;
        }
    }

    public int whose(long k, int place, int what) {
        int refusal = findWay(k);
        if (refusal < 0) {
            return refusal;
        }
        if (place < 0 || place >= found.letters.length || what < 0 || what > 1) {
            return NO_SUCH;
        }
        return what == 0 ? found.letterStep[place] : found.letterNode[place];
    }

    public int arcs(long k, int what) {
        int refusal = findWay(k);
        if (refusal < 0) {
            return refusal;
        }
        switch (what) {
            case 0: return found.arcCount();
            case 1: return found.crossings();
            case 2: return found.longestArc();
            default: return NO_SUCH;
        }
    }

    public int grown(long k, int what) {
        int refusal = findWay(k);
        if (refusal < 0) {
            return refusal;
        }
        switch (what) {
            case 0: return found.deepest;
            case 1: return found.branches;
            default: return NO_SUCH;
        }
    }

    public int tell(long k) {
        int refusal = findWay(k);
        if (refusal < 0) {
            return refusal;
        }
        told.takeFrom(found.text, 0);
        return told.length;
    }

    public int tellWay(long k) {
        int refusal = findWay(k);
        if (refusal < 0) {
            return refusal;
        }
        told.length = 0;
        found.tellSteps(told);
        return told.length;
    }

    public int octet(int i) {
        return told.at(i);
    }

    public int test() {
        boolean good = stepsReader.readText(tape);
        tape.length = 0;
        if (!good) {
            return REFUSED;
        }
        int refusal = stepsReader.putTogether(present, tried);
        if (refusal < 0) {
            return refusal;
        }
        tried.unfold(present);
        told.takeFrom(tried.letters, 'a');
        return tried.letters.isLike(letters) ? 1 : 0;
    }

    public int mends() {
        knowMends();
        return listedCount[MENDS];
    }

    public int mend(int k) {
        if (k < 0) {
            return NO_SUCH;
        }
        knowMends();
        return listedAt(MENDS, k);
    }

    public int sentences(int m) {
        if (m < 0 || m > LONGEST_LISTED) {
            return NO_SUCH;
        }
        if (Integer.bitCount(present.letterBits) > MOST_UNLIKE) {
            return MANY_LETTERS;
        }
        knowSentences(m);
        return listedCount[m];
    }

    public int sentence(int m, int k) {
        if (m < 0 || m > LONGEST_LISTED || k < 0) {
            return NO_SUCH;
        }
        if (Integer.bitCount(present.letterBits) > MOST_UNLIKE) {
            return MANY_LETTERS;
        }
        knowSentences(m);
        return listedAt(m, k);
    }

    public int used(int what) {
        if (what < 0 || what > 1) {
            return NO_SUCH;
        }
        knowSummary();
        return what == 0 ? Summary.some(summed) : Summary.every(summed);
    }

    private static boolean isLetter(int sign) {
        return sign >= 'a' && sign <= 'z';
    }

    private static int within(int base, int at) {
        return at == NONE ? NONE : at - base;
    }

    private static long shown(long number) {
        return number > MOST_WAYS ? TOO_GREAT : number;
    }

    private boolean isSpan(int i, int j) {
        return 0 <= i && i <= j && j <= letters.length;
    }

    private boolean isGap(int i, int j, int p, int q) {
        return isSpan(i, j) && i <= p && p <= q && q <= j;
    }

    private boolean learns(int bit) {
        boolean fresh = (known & bit) == 0;
        known |= bit;
        return fresh;
    }

    private void knowCounts() {
        if (learns(KNOWN_COUNTS)) {
            counts.fill(present, present.absent, letters.length, counting);
        }
    }

    private long countedWays() {
        knowCounts();
        return counts.atStart(letters.length);
    }

    private void knowSummary() {
        if (learns(KNOWN_SUMMARY)) {
            scratch.fill(present, present.absent, letters.length, summary);
            summed = scratch.atStart(letters.length);
        }
    }

    /** 0 if the k-th way stands in found, else what a call about it answers. */
    private int findWay(long k) {
        if (k < 0) {
            return NO_SUCH;
        }
        knowCounts();
        long all = counts.atStart(letters.length);
        if (all > MOST_WAYS) {
            return TOO_GREAT;
        }
        if (k >= all) {
            return NONE;
        }
        if (learns(KNOWN_WAY) || found.rank != k) {
            found.rank = k;
            finder.find(counts, k, found);
            found.unfold(present);
        }
        return 0;
    }

    private int listedAt(int list, int k) {
        return k >= 0 && k < listedCount[list] && k < FOUND_ROOM ? listed[list][k] : NONE;
    }

    private void knowMends() {
        if (!learns(1 << MENDS)) {
            return;
        }
        listedCount[MENDS] = 0;
        masks.clear();
        for (int place = 0; place < letters.length; place++) {
            for (int letter = 0; letter < ALPHABET; letter++) {
                if ((present.letterBits >> letter & 1) == 1 && letters.at(place) != letter) {
                    masks.addChange(letters, place, letter);
                    if (masks.size == Masks.ROOM) {
                        listRead(MENDS, letters.length);
                    }
                }
            }
        }
        listRead(MENDS, letters.length);
    }

    private void knowSentences(int m) {
        if (!learns(1 << m)) {
            return;
        }
        listedCount[m] = 0;
        masks.clear();
        int unlike = Integer.bitCount(present.letterBits);
        int all = 1;
        for (int place = 0; place < m; place++) {
            all *= unlike;
        }
        for (int index = 0; index < all; index++) {
            masks.addSentence(present.letterBits, unlike, m, index);
            if (masks.size == Masks.ROOM) {
                listRead(m, m);
            }
        }
        listRead(m, m);
    }

    /** The candidates that are read go to the end of a list, and the masks are empty again. */
    private void listRead(int list, int size) {
        if (masks.size == 0) {
            return;
        }
        scratch.fill(present, present.absent, size, masks);
        long readOnes = scratch.atStart(size);
        for (int c = 0; c < masks.size; c++) {
            if ((readOnes >> c & 1) == 1 && listedCount[list] < FOUND_ROOM) {
                listed[list][listedCount[list]] = masks.code[c];
                listedCount[list]++;
            }
        }
        masks.clear();
    }

    /** A row of bytes that knows how many of them count. */
    private static final class Bytes {
        final byte[] row;
        int length;

        Bytes(int room) {
            row = new byte[Math.max(room, 0)];
        }

        int room() {
            return row.length - length;
        }

        int at(int i) {
            return i < 0 || i >= length || i >= row.length ? NONE : row[i] & 255;
        }

        void add(int value) {
            if (length >= 0 && length < row.length) {
                row[length] = (byte) value;
                length++;
            }
        }

        void addFour(int value) {
            add(value >> 24);
            add(value >> 16);
            add(value >> 8);
            add(value);
        }

        void addNumber(int number) {
            if (number >= 10) {
                add('0' + number / 10);
            }
            add('0' + number % 10);
        }

        void takeFrom(Bytes other, int more) {
            length = 0;
            for (int i = 0; i < other.length; i++) {
                add(other.at(i) + more);
            }
        }

        boolean isLike(Bytes other) {
            boolean like = length == other.length;
            for (int i = 0; i < length && like; i++) {
                like = at(i) == other.at(i);
            }
            return like;
        }

        int afterBlanks(int from) {
            int i = from;
            while (i >= 0 && i < length && (row[i] == ' ' || row[i] == '\n')) {
                i++;
            }
            return i;
        }
    }

    /** The trees, their nodes numbered through all trees, and what follows from them. */
    private static final class Grammar {
        int trees;
        int nodes;
        int hosts;
        int guests;
        int absent;
        int letterBits;
        final int[] base = new int[TREE_ROOM + 1];
        final int[] treeOf = new int[NODE_ROOM];
        final int[] kind = new int[NODE_ROOM];
        final int[] label = new int[NODE_ROOM];
        final int[] mark = new int[NODE_ROOM];
        final int[] first = new int[NODE_ROOM];
        final int[] second = new int[NODE_ROOM];
        final int[] above = new int[NODE_ROOM];
        final int[] lettersIn = new int[NODE_ROOM];
        final boolean[] footed = new boolean[NODE_ROOM];
        final int[] order = new int[NODE_ROOM];
        final int[] hostsOf = new int[ALPHABET];
        final int[] guestsOf = new int[ALPHABET];

        void clear() {
            trees = 0;
            nodes = 0;
            hosts = 0;
            guests = 0;
            absent = 0;
            letterBits = 0;
            base[0] = 0;
            Arrays.fill(hostsOf, 0);
            Arrays.fill(guestsOf, 0);
        }

        boolean hasTree(int tree) {
            return tree >= 0 && tree < trees;
        }

        boolean hasNode(int tree, int node) {
            return hasTree(tree) && node >= 0 && node < sizeOf(tree);
        }

        int sizeOf(int tree) {
            return base[tree + 1] - base[tree];
        }

        int startLabel() {
            return trees == 0 ? NONE : label[0];
        }

        int hostsAtStart() {
            return trees == 0 ? 0 : hostsOf[label[0]];
        }

        int firstOfKind(int tree, int sought) {
            for (int at = base[tree]; at < base[tree + 1]; at++) {
                if (kind[at] == sought) {
                    return at - base[tree];
                }
            }
            return NONE;
        }

        int placesOf(int tree) {
            int places = 0;
            for (int at = base[tree]; at < base[tree + 1]; at++) {
                if (kind[at] == PLACE) {
                    places++;
                }
            }
            return places;
        }

        /** The latest tree is open: nodes come to it until closeTree. */
        void openTree() {
            trees++;
            base[trees] = nodes;
        }

        boolean hasRoomForNode() {
            return nodes < NODE_ROOM && nodes - base[trees - 1] < TREE_NODE_ROOM;
        }

        int addNode(int itsKind, int itsLabel, int parent) {
            int at = nodes;
            nodes++;
            base[trees] = nodes;
            treeOf[at] = trees - 1;
            kind[at] = itsKind;
            label[at] = itsLabel;
            mark[at] = 0;
            first[at] = NONE;
            second[at] = NONE;
            above[at] = parent;
            lettersIn[at] = 0;
            footed[at] = false;
            if (parent != NONE && first[parent] == NONE) {
                first[parent] = at;
            } else if (parent != NONE) {
                second[parent] = at;
            }
            return at;
        }

        void addLetter(int letter, int parent) {
            int at = addNode(LETTER, letter, parent);
            letterBits |= 1 << letter;
            int up = at;
            for (int turn = 0; turn < TREE_NODE_ROOM && up != NONE; turn++) {
                lettersIn[up]++;
                up = above[up];
            }
        }

        void addFoot(int itsLabel, int parent) {
            int at = addNode(FOOT, itsLabel, parent);
            int up = at;
            for (int turn = 0; turn < TREE_NODE_ROOM && up != NONE; turn++) {
                footed[up] = true;
                up = above[up];
            }
        }

        void closeTree() {
            int tree = trees - 1;
            int root = base[tree];
            if (footed[root]) {
                guests |= 1 << tree;
                guestsOf[label[root]] |= 1 << tree;
            } else {
                hosts |= 1 << tree;
                hostsOf[label[root]] |= 1 << tree;
            }
        }

        /**
         * The order in which a chart can be filled for one number of letters: nodes with all letters of their tree
         * need of that number only one another; hosts without letters need guests; the rest needs both.
         */
        void putInOrder() {
            int size = 0;
            for (int turn = 0; turn < 3; turn++) {
                for (int at = nodes - 1; at >= 0; at--) {
                    if (turnOf(at) == turn) {
                        order[size] = at;
                        size++;
                    }
                }
            }
        }

        private int turnOf(int at) {
            int all = lettersIn[base[treeOf[at]]];
            if (all == 0) {
                return 1;
            }
            return lettersIn[at] == all ? 0 : 2;
        }
    }

    /** Reads the text of a grammar and keeps its first fault. */
    private static final class GrammarReader {
        private static final int NOT_HERE = 1;
        private static final int BAD_FOOT = 2;
        private static final int TOO_MANY = 3;
        private static final int NO_LETTER = 4;

        int faultKind = 0;
        int faultPlace = NONE;
        private Bytes text = new Bytes(0);
        private Grammar into;
        private int place;
        private int open;

        boolean readText(Bytes tape, Grammar draft) {
            text = tape;
            into = draft;
            into.clear();
            faultKind = 0;
            faultPlace = NONE;
            place = text.afterBlanks(0);
            for (int line = 0; line <= TREE_ROOM && place < text.length && faultKind == 0; line++) {
                readLine();
            }
            into.putInOrder();
            return faultKind == 0;
        }

        private void refuse(int kind) {
            faultKind = kind;
            faultPlace = place;
        }

        private int sign() {
            return text.at(place);
        }

        private void goOn(int bytes) {
            place = text.afterBlanks(place + bytes);
        }

        private static boolean isLabel(int sign) {
            return sign >= 'A' && sign <= 'Z';
        }

        private boolean isWord() {
            return text.at(place) == 't' && text.at(place + 1) == 'r'
                && text.at(place + 2) == 'e' && text.at(place + 3) == 'e';
        }

        private void readLine() {
            if (!isWord()) {
                refuse(NOT_HERE);
                return;
            }
            if (into.trees >= TREE_ROOM) {
                refuse(TOO_MANY);
                return;
            }
            goOn(4);
            if (sign() != '(') {
                refuse(NOT_HERE);
                return;
            }
            into.openTree();
            open = NONE;
            readOpening();
            for (int turn = 0; turn < TAPE_ROOM && open != NONE && faultKind == 0; turn++) {
                readPart();
            }
            if (faultKind == 0) {
                readLineEnd();
            }
        }

        private void readLineEnd() {
            into.closeTree();
            if (sign() != ';') {
                refuse(NOT_HERE);
                return;
            }
            goOn(1);
        }

        private void readOpening() {
            goOn(1);
            if (!isLabel(sign())) {
                refuse(NOT_HERE);
                return;
            }
            if (!into.hasRoomForNode()) {
                refuse(TOO_MANY);
                return;
            }
            open = into.addNode(BRANCH, sign() - 'A', open);
            goOn(1);
            if (sign() == '!' || sign() == '+') {
                into.mark[open] = sign() == '!' ? NO_GUEST : MUST_GUEST;
                goOn(1);
            }
        }

        private void readPart() {
            if (sign() == ')') {
                readClosing();
            } else if (into.second[open] != NONE) {
                refuse(NOT_HERE);
            } else if (sign() == '(') {
                readOpening();
            } else if (isLabel(sign())) {
                readLabelled();
            } else if (isLetter(sign()) || sign() == '.') {
                readSign();
            } else {
                refuse(NOT_HERE);
            }
        }

        private void readClosing() {
            if (into.first[open] == NONE) {
                refuse(NOT_HERE);
                return;
            }
            if (into.above[open] == NONE && lacksLetter()) {
                refuse(NO_LETTER);
                return;
            }
            open = into.above[open];
            goOn(1);
        }

        private boolean lacksLetter() {
            int tree = into.trees - 1;
            return into.lettersIn[open] == 0 && (into.footed[open] || into.placesOf(tree) > 0);
        }

        private void readSign() {
            if (!into.hasRoomForNode()) {
                refuse(TOO_MANY);
                return;
            }
            if (sign() == '.') {
                into.addNode(EMPTY, NONE, open);
            } else {
                into.addLetter(sign() - 'a', open);
            }
            goOn(1);
        }

        private void readLabelled() {
            int label = sign() - 'A';
            int behind = text.at(text.afterBlanks(place + 1));
            int root = into.base[into.trees - 1];
            if (behind == '*' && (into.footed[root] || into.label[root] != label)) {
                refuse(BAD_FOOT);
                return;
            }
            if (!into.hasRoomForNode()) {
                refuse(TOO_MANY);
                return;
            }
            goOn(1);
            if (behind == '*') {
                into.addFoot(label, open);
            } else if (behind == '^') {
                into.addNode(PLACE, label, open);
            } else {
                refuse(NOT_HERE);
                return;
            }
            goOn(1);
        }
    }

    /** What a chart holds of the ways: 0 is that there are none. */
    private abstract static class Algebra {
        /** Of one way, without steps. */
        abstract long one();

        /** Of each of these together with each of those. */
        abstract long both(long some, long others);

        abstract long either(long some, long others);

        /** Of these as a step with a tree. */
        abstract long placed(int tree, long some);

        abstract long letterAt(int place, int letter);
    }

    /** How many ways there are; one number stands for all that are too many. */
    private static final class Counting extends Algebra {
        private static final long CAP = MOST_WAYS + 1;
        private final Bytes letters;

        Counting(Bytes letters) {
            this.letters = letters;
        }

        long one() {
            return 1;
        }

        long both(long some, long others) {
            if (some <= 0 || others <= 0) {
                return 0;
            }
            return some > CAP / others ? CAP : some * others;
        }

        long either(long some, long others) {
            return some > CAP - others ? CAP : some + others;
        }

        long placed(int tree, long some) {
            return some;
        }

        long letterAt(int place, int letter) {
            return letters.at(place) == letter ? 1 : 0;
        }
    }

    /** Which trees some way, each way has, and the fewest, the most steps, eight bits each. */
    private static final class Summary extends Algebra {
        private static final long THERE_IS = 1L << 32;
        private static final long ONE_STEP = 1L << 16 | 1L << 24;
        private final Bytes letters;

        Summary(Bytes letters) {
            this.letters = letters;
        }

        static int some(long ways) {
            return (int) (ways & 255);
        }

        static int every(long ways) {
            return (int) (ways >> 8 & 255);
        }

        static int fewest(long ways) {
            return (int) (ways >> 16 & 255);
        }

        static int most(long ways) {
            return (int) (ways >> 24 & 255);
        }

        private static long packed(int some, int every, int fewest, int most) {
            return THERE_IS | (long) some | (long) every << 8 | (long) fewest << 16 | (long) most << 24;
        }

        long one() {
            return THERE_IS;
        }

        long both(long x, long y) {
            if (x == 0 || y == 0) {
                return 0;
            }
            return packed(some(x) | some(y), every(x) | every(y), fewest(x) + fewest(y), most(x) + most(y));
        }

        long either(long x, long y) {
            if (x == 0 || y == 0) {
                return x | y;
            }
            return packed(some(x) | some(y), every(x) & every(y),
                Math.min(fewest(x), fewest(y)), Math.max(most(x), most(y)));
        }

        long placed(int tree, long ways) {
            return ways == 0 ? 0 : (ways | 1L << tree | 1L << tree + 8) + ONE_STEP;
        }

        long letterAt(int place, int letter) {
            return letters.at(place) == letter ? THERE_IS : 0;
        }
    }

    /** Which of up to 64 sentences of one length are read, a bit for each. */
    private static final class Masks extends Algebra {
        private static final int ROOM = 64;
        int size;
        final int[] code = new int[ROOM];
        private final long[] having = new long[LETTER_ROOM * ALPHABET];

        void clear() {
            size = 0;
            Arrays.fill(having, 0);
        }

        /** The sentence with another letter at a place. */
        void addChange(Bytes letters, int place, int letter) {
            for (int x = 0; x < letters.length; x++) {
                has(x, x == place ? letter : letters.at(x));
            }
            close(100 * place + letter);
        }

        /** The sentence of some length that an index tells, its digits being letters of a set. */
        void addSentence(int letterBits, int unlike, int length, int index) {
            int rest = index;
            int itsCode = 0;
            int weight = 1;
            for (int x = length - 1; x >= 0; x--) {
                int letter = unlike == 0 ? 0 : letterOf(letterBits, rest % unlike);
                rest = unlike == 0 ? 0 : rest / unlike;
                has(x, letter);
                itsCode += weight * (letter + 1);
                weight *= ALPHABET + 1;
            }
            close(itsCode);
        }

        private static int letterOf(int letterBits, int which) {
            int left = which;
            for (int letter = 0; letter < ALPHABET; letter++) {
                if ((letterBits >> letter & 1) == 1) {
                    if (left == 0) {
                        return letter;
                    }
                    left--;
                }
            }
            return 0;
        }

        private void has(int place, int letter) {
            int at = place * ALPHABET + letter;
            if (size < ROOM && at >= 0 && at < having.length) {
                having[at] |= 1L << size;
            }
        }

        private void close(int itsCode) {
            if (size < ROOM) {
                code[size] = itsCode;
                size++;
            }
        }

        long one() {
            return size >= ROOM ? -1L : (1L << size) - 1;
        }

        long both(long some, long others) {
            return some & others;
        }

        long either(long some, long others) {
            return some | others;
        }

        long placed(int tree, long some) {
            return some;
        }

        long letterAt(int place, int letter) {
            int at = place * ALPHABET + letter;
            return at < 0 || at >= having.length ? 0 : having[at];
        }
    }

    /** Of each node, span and gap the ways in which the one is over the others. */
    private static final class Chart {
        // A cell's number is how many gaps in spans are ahead of it, by j, then q, then p, then i.
        private static final int[] BY_J = {0, 1, 5, 15, 35, 70, 126, 210, 330, 495};
        private static final int[] BY_Q = {0, 1, 4, 10, 20, 35, 56, 84, 120};
        private static final int[] BY_P = {0, 1, 3, 6, 10, 15, 21, 28, 36};
        private static final int CELLS = 495;

        Grammar trees = new Grammar();
        int size;
        private int absent;
        private Algebra algebra;
        private final long[] cells = new long[NODE_ROOM * 2 * CELLS];
        // Of all guests of one label together, in the row of the first of them.
        private final long[] guestSums = new long[TREE_ROOM * CELLS];

        /** A node without a gap is asked with p and q as j. */
        long value(int node, int half, int i, int j, int p, int q) {
            if (node < 0 || node >= trees.nodes || i < 0 || i > p || p > q || q > j || j > size) {
                return 0;
            }
            return cells[row(node, half) + cell(i, j, p, q)];
        }

        /** Other nodes than branches have one row for both halves. */
        private int row(int node, int half) {
            return (2 * node + (trees.kind[node] == BRANCH ? half : ABOVE)) * CELLS;
        }

        private static int cell(int i, int j, int p, int q) {
            return BY_J[j] + BY_Q[q] + BY_P[p] + i;
        }

        void fill(Grammar grammar, int missing, int letters, Algebra kindOfWays) {
            trees = grammar;
            absent = missing;
            size = letters;
            algebra = kindOfWays;
            clear();
            for (int covered = 0; covered <= size; covered++) {
                for (int t = 0; t < trees.nodes; t++) {
                    int node = trees.order[t];
                    if (!isThere(trees.treeOf[node]) || trees.lettersIn[node] > covered) {
                        continue;
                    }
                    if (trees.kind[node] == BRANCH) {
                        fillBranch(node, covered);
                    } else if (trees.kind[node] == PLACE) {
                        fillPlace(node, covered);
                    } else if (trees.lettersIn[node] == covered) {
                        fillSign(node);
                    }
                }
            }
        }

        private void clear() {
            int used = BY_J[size + 1];
            for (int row = 0; row < 2 * trees.nodes; row++) {
                Arrays.fill(cells, row * CELLS, row * CELLS + used, 0);
            }
            for (int tree = 0; tree < trees.trees; tree++) {
                Arrays.fill(guestSums, tree * CELLS, tree * CELLS + used, 0);
            }
        }

        private boolean isThere(int tree) {
            return (absent >> tree & 1) == 0;
        }

        private void fillSign(int node) {
            int row = row(node, ABOVE);
            for (int i = 0; i <= size; i++) {
                if (trees.kind[node] == EMPTY) {
                    cells[row + cell(i, i, i, i)] = algebra.one();
                } else if (trees.kind[node] == FOOT) {
                    for (int j = i; j <= size; j++) {
                        cells[row + cell(i, j, i, j)] = algebra.one();
                    }
                } else if (i < size) {
                    int next = i + 1;
                    cells[row + cell(i, next, next, next)] = algebra.letterAt(i, trees.label[node]);
                }
            }
        }

        private void fillPlace(int node, int covered) {
            int row = row(node, ABOVE);
            int hosts = trees.hostsOf[trees.label[node]];
            for (int i = 0; i + covered <= size; i++) {
                int j = i + covered;
                cells[row + cell(i, j, j, j)] = hostsOver(hosts, i, j);
            }
        }

        private long hostsOver(int hosts, int i, int j) {
            long sum = 0;
            for (int tree = 0; tree < trees.trees; tree++) {
                if ((hosts >> tree & 1) == 1) {
                    long ways = value(trees.base[tree], ABOVE, i, j, j, j);
                    sum = ways == 0 ? sum : algebra.either(sum, algebra.placed(tree, ways));
                }
            }
            return sum;
        }

        private void fillBranch(int node, int covered) {
            boolean footed = trees.footed[node];
            boolean guest = footed && trees.above[node] == NONE;
            for (int i = 0; i + covered <= size; i++) {
                int widest = footed ? size : i + covered;
                for (int j = i + covered; j <= widest; j++) {
                    int gap = footed ? j - i - covered : 0;
                    for (int p = footed ? i : j; p + gap <= j; p++) {
                        int at = cell(i, j, p, p + gap);
                        cells[row(node, BELOW) + at] = waysBelow(node, i, j, p, p + gap);
                        long ways = waysAbove(node, i, j, p, p + gap);
                        cells[row(node, ABOVE) + at] = ways;
                        if (guest && ways != 0) {
                            addGuest(node, at, ways);
                        }
                    }
                }
            }
        }

        private void addGuest(int root, int at, long ways) {
            int row = guestRow(trees.label[root]);
            if (row != NONE) {
                long placed = algebra.placed(trees.treeOf[root], ways);
                guestSums[row + at] = algebra.either(guestSums[row + at], placed);
            }
        }

        /** NONE if no guest of the label is there. */
        private int guestRow(int label) {
            int guests = trees.guestsOf[label];
            return (guests & ~absent) == 0 ? NONE : Integer.numberOfTrailingZeros(guests) * CELLS;
        }

        private long waysBelow(int node, int i, int j, int p, int q) {
            int first = trees.first[node];
            int second = trees.second[node];
            if (second == NONE) {
                return value(first, ABOVE, i, j, p, q);
            }
            boolean gapFirst = trees.footed[first];
            long sum = 0;
            int last = gapFirst ? j : p;
            for (int k = gapFirst ? q : i; k <= last; k++) {
                long one = gapFirst ? value(first, ABOVE, i, k, p, q) : value(first, ABOVE, i, k, k, k);
                if (one != 0) {
                    long other = gapFirst ? value(second, ABOVE, k, j, j, j) : value(second, ABOVE, k, j, p, q);
                    sum = other == 0 ? sum : algebra.either(sum, algebra.both(one, other));
                }
            }
            return sum;
        }

        private long waysAbove(int node, int i, int j, int p, int q) {
            int below = row(node, BELOW);
            long sum = trees.mark[node] == MUST_GUEST ? 0 : cells[below + cell(i, j, p, q)];
            int guests = trees.mark[node] == NO_GUEST ? NONE : guestRow(trees.label[node]);
            if (guests == NONE) {
                return sum;
            }
            boolean footed = trees.footed[node];
            for (int a = i; a <= p; a++) {
                for (int b = footed ? q : a; b <= j; b++) {
                    long inner = cells[below + (footed ? cell(a, b, p, q) : cell(a, b, b, b))];
                    if (inner != 0) {
                        long outer = guestSums[guests + cell(i, j, a, b)];
                        sum = outer == 0 ? sum : algebra.either(sum, algebra.both(outer, inner));
                    }
                }
            }
            return sum;
        }

        /** Of the first letters, as the whole sentence. */
        long atStart(int letters) {
            return hostsOver(trees.hostsAtStart(), 0, letters);
        }

        int rootsOver(int which, int i, int j, int p, int q) {
            int bits = 0;
            for (int tree = 0; tree < trees.trees; tree++) {
                if ((which >> tree & 1) == 1 && value(trees.base[tree], ABOVE, i, j, p, q) != 0) {
                    bits |= 1 << tree;
                }
            }
            return bits;
        }

        int itemsOf(int half) {
            int sum = 0;
            for (int node = 0; node < trees.nodes; node++) {
                int row = row(node, half);
                for (int at = 0; at < BY_J[size + 1]; at++) {
                    sum += cells[row + at] == 0 ? 0 : 1;
                }
            }
            return sum;
        }
    }

    /** Steps put into one another, and what grows of them. */
    private static final class Way {
        private static final int CLOSE = -1;
        long rank;
        int size;
        int deepest;
        int branches;
        final int[] treeOf = new int[STEP_ROOM];
        final int[] into = new int[STEP_ROOM];
        final int[] at = new int[STEP_ROOM];
        final int[] head = new int[STEP_ROOM];
        final int[] inside = new int[STEP_ROOM * TREE_NODE_ROOM];
        final Bytes text = new Bytes(TOLD_ROOM);
        final Bytes letters = new Bytes(STEP_ROOM * TREE_NODE_ROOM);
        final int[] letterStep = new int[STEP_ROOM * TREE_NODE_ROOM];
        final int[] letterNode = new int[STEP_ROOM * TREE_NODE_ROOM];
        private final int[] stack = new int[STACK_ROOM];
        private int height;
        private int depth;

        void clear() {
            size = 0;
            Arrays.fill(inside, NONE);
        }

        /** Puts a tree into a node of an earlier step, and answers the new step. */
        int addStep(int tree, int host, int node) {
            if (size >= STEP_ROOM) {
                return STEP_ROOM - 1;
            }
            int step = size;
            treeOf[step] = tree;
            into[step] = host;
            at[step] = node;
            head[step] = NONE;
            if (host != NONE) {
                inside[host * TREE_NODE_ROOM + node] = step;
            }
            size++;
            return step;
        }

        void tellSteps(Bytes to) {
            for (int step = 0; step < size; step++) {
                to.addNumber(treeOf[step]);
                if (step > 0) {
                    to.add(' ');
                    to.addNumber(into[step]);
                    to.add(' ');
                    to.addNumber(at[step]);
                }
                to.add(';');
            }
        }

        void unfold(Grammar trees) {
            text.length = 0;
            letters.length = 0;
            deepest = 0;
            branches = 0;
            depth = 0;
            height = 0;
            push(0, 0, ABOVE);
            for (int turn = 0; turn < TURNS && height > 0; turn++) {
                height--;
                int task = stack[height];
                if (task == CLOSE) {
                    text.add(')');
                    depth--;
                } else {
                    int spot = task >> 1;
                    unfoldNode(trees, spot / TREE_NODE_ROOM, spot % TREE_NODE_ROOM, task & 1);
                }
            }
        }

        private void push(int step, int node, int half) {
            pushTask(2 * (step * TREE_NODE_ROOM + node) + half);
        }

        private void pushTask(int task) {
            if (height < STACK_ROOM) {
                stack[height] = task;
                height++;
            }
        }

        private void unfoldNode(Grammar trees, int step, int node, int half) {
            int base = trees.base[treeOf[step]];
            int itsKind = trees.kind[base + node];
            int other = inside[step * TREE_NODE_ROOM + node];
            if (itsKind == FOOT) {
                push(into[step], at[step], BELOW);
            } else if (other != NONE && half == ABOVE) {
                push(other, 0, ABOVE);
            } else if (itsKind == BRANCH) {
                unfoldBranch(trees, step, node);
            } else if (itsKind == LETTER) {
                growLetter(trees, step, node);
            } else if (itsKind == EMPTY) {
                blankAhead();
                text.add('.');
            }
        }

        private void unfoldBranch(Grammar trees, int step, int node) {
            int base = trees.base[treeOf[step]];
            blankAhead();
            text.add('(');
            text.add('A' + trees.label[base + node]);
            branches++;
            depth++;
            deepest = Math.max(deepest, depth);
            pushTask(CLOSE);
            int second = trees.second[base + node];
            if (second != NONE) {
                push(step, second - base, ABOVE);
            }
            push(step, trees.first[base + node] - base, ABOVE);
        }

        private void growLetter(Grammar trees, int step, int node) {
            int tree = treeOf[step];
            int letter = trees.label[trees.base[tree] + node];
            int place = letters.length;
            blankAhead();
            text.add('a' + letter);
            if (place < letterStep.length) {
                letterStep[place] = step;
                letterNode[place] = node;
                letters.add(letter);
            }
            if (trees.firstOfKind(tree, LETTER) == node) {
                head[step] = place;
            }
        }

        private void blankAhead() {
            if (text.length > 0) {
                text.add(' ');
            }
        }

        private boolean hasArc(int step) {
            return step > 0 && head[step] != NONE && head[into[step]] != NONE;
        }

        int arcCount() {
            int sum = 0;
            for (int step = 1; step < size; step++) {
                sum += hasArc(step) ? 1 : 0;
            }
            return sum;
        }

        int longestArc() {
            int longest = 0;
            for (int step = 1; step < size; step++) {
                if (hasArc(step)) {
                    longest = Math.max(longest, Math.abs(head[step] - head[into[step]]));
                }
            }
            return longest;
        }

        int crossings() {
            int sum = 0;
            for (int one = 1; one < size; one++) {
                for (int other = one + 1; other < size; other++) {
                    sum += hasArc(one) && hasArc(other) && cross(one, other) ? 1 : 0;
                }
            }
            return sum;
        }

        private boolean cross(int one, int other) {
            int low = Math.min(head[one], head[into[one]]);
            int high = Math.max(head[one], head[into[one]]);
            int left = Math.min(head[other], head[into[other]]);
            int right = Math.max(head[other], head[into[other]]);
            return low < left && left < high && high < right || left < low && low < right && right < high;
        }
    }

    /** Finds a way by its number, from the numbers of ways in a chart. */
    private static final class WayFinder {
        private Chart chart;
        private Grammar trees;
        private Way way;
        private int height;
        private final int[] spots = new int[STACK_ROOM];
        private final int[] covers = new int[STACK_ROOM];
        private final long[] ranks = new long[STACK_ROOM];
        private int step;
        private int node;
        private long rank;
        private int i;
        private int j;
        private int p;
        private int q;

        void find(Chart counts, long k, Way into) {
            chart = counts;
            trees = counts.trees;
            way = into;
            way.clear();
            height = 0;
            i = 0;
            j = counts.size;
            rank = k;
            putHost(trees.hostsAtStart(), NONE, NONE);
            for (int turn = 0; turn < TURNS && height > 0; turn++) {
                int half = pop();
                int at = trees.base[way.treeOf[step]] + node;
                if (trees.kind[at] == PLACE) {
                    putHost(trees.hostsOf[trees.label[at]], step, node);
                } else if (trees.kind[at] == BRANCH && half == ABOVE) {
                    goAbove(at);
                } else if (trees.kind[at] == BRANCH) {
                    goBelow(at);
                }
            }
        }

        private void push(int itsStep, int itsNode, int half, int cover, long itsRank) {
            if (height < STACK_ROOM) {
                spots[height] = 2 * (itsStep * TREE_NODE_ROOM + itsNode) + half;
                covers[height] = cover;
                ranks[height] = itsRank;
                height++;
            }
        }

        private static int cover(int i, int j, int p, int q) {
            return i << 12 | j << 8 | p << 4 | q;
        }

        private int pop() {
            height--;
            int spot = spots[height];
            int cover = covers[height];
            rank = ranks[height];
            step = (spot >> 1) / TREE_NODE_ROOM;
            node = (spot >> 1) % TREE_NODE_ROOM;
            i = cover >> 12 & 15;
            j = cover >> 8 & 15;
            p = cover >> 4 & 15;
            q = cover & 15;
            return spot & 1;
        }

        private void putHost(int hosts, int intoStep, int intoNode) {
            for (int tree = 0; tree < trees.trees; tree++) {
                if ((hosts >> tree & 1) == 1) {
                    long all = chart.value(trees.base[tree], ABOVE, i, j, j, j);
                    if (rank < all) {
                        int added = way.addStep(tree, intoStep, intoNode);
                        push(added, 0, ABOVE, cover(i, j, j, j), rank);
                        return;
                    }
                    rank -= all;
                }
            }
        }

        private void goAbove(int at) {
            if (trees.mark[at] != MUST_GUEST) {
                long bare = chart.value(at, BELOW, i, j, p, q);
                if (rank < bare) {
                    push(step, node, BELOW, cover(i, j, p, q), rank);
                    return;
                }
                rank -= bare;
            }
            int guests = trees.guestsOf[trees.label[at]];
            for (int tree = 0; tree < trees.trees; tree++) {
                if ((guests >> tree & 1) == 1 && putGuest(at, tree)) {
                    return;
                }
            }
        }

        /** False if the way is none of those with this guest; then they are off the rank. */
        private boolean putGuest(int at, int tree) {
            boolean footed = trees.footed[at];
            for (int a = i; a <= p; a++) {
                for (int b = footed ? q : a; b <= j; b++) {
                    int gapStart = footed ? p : b;
                    int gapEnd = footed ? q : b;
                    long inner = chart.value(at, BELOW, a, b, gapStart, gapEnd);
                    long outer = chart.value(trees.base[tree], ABOVE, i, j, a, b);
                    if (inner > 0 && rank / inner < outer) {
                        push(step, node, BELOW, cover(a, b, gapStart, gapEnd), rank % inner);
                        int added = way.addStep(tree, step, node);
                        push(added, 0, ABOVE, cover(i, j, a, b), rank / inner);
                        return true;
                    }
                    rank -= inner > 0 && outer > 0 ? inner * outer : 0;
                }
            }
            return false;
        }

        private void goBelow(int at) {
            int base = trees.base[way.treeOf[step]];
            int first = trees.first[at];
            int second = trees.second[at];
            if (second == NONE) {
                push(step, first - base, ABOVE, cover(i, j, p, q), rank);
                return;
            }
            boolean gapFirst = trees.footed[first];
            int last = gapFirst ? j : p;
            for (int k = gapFirst ? q : i; k <= last; k++) {
                int firstCover = gapFirst ? cover(i, k, p, q) : cover(i, k, k, k);
                int secondCover = gapFirst ? cover(k, j, j, j) : cover(k, j, p, q);
                long one = valueOf(first, firstCover);
                long other = valueOf(second, secondCover);
                if (other > 0 && rank / other < one) {
                    push(step, second - base, ABOVE, secondCover, rank % other);
                    push(step, first - base, ABOVE, firstCover, rank / other);
                    return;
                }
                rank -= other > 0 && one > 0 ? other * one : 0;
            }
        }

        private long valueOf(int at, int cover) {
            return chart.value(at, ABOVE, cover >> 12 & 15, cover >> 8 & 15, cover >> 4 & 15, cover & 15);
        }
    }

    /** Reads steps told as a text, and puts them together. */
    private static final class StepsReader {
        private static final int BIG = 1000000;
        private static final int NOT_THERE = -100;
        private static final int NO_HOST = -200;
        private static final int GUEST_MISSING = -300;

        private Bytes text = new Bytes(0);
        private Grammar trees;
        private Way way;
        private int place;
        private int size;
        private final int[] tree = new int[TEST_STEPS];
        private final int[] into = new int[TEST_STEPS];
        private final int[] at = new int[TEST_STEPS];

        boolean readText(Bytes tape) {
            text = tape;
            size = 0;
            place = text.afterBlanks(0);
            boolean good = place < text.length;
            for (int turn = 0; turn <= TEST_STEPS && good && place < text.length; turn++) {
                good = size < TEST_STEPS && readStep();
            }
            return good;
        }

        private boolean readStep() {
            tree[size] = readNumber();
            into[size] = size == 0 ? 0 : readNumber();
            at[size] = size == 0 ? 0 : readNumber();
            boolean good = tree[size] >= 0 && into[size] >= 0 && at[size] >= 0 && text.at(place) == ';';
            place = text.afterBlanks(place + 1);
            size++;
            return good;
        }

        private int readNumber() {
            int number = isDigit(text.at(place)) ? 0 : NONE;
            while (place < text.length && isDigit(text.at(place))) {
                number = Math.min(BIG, 10 * number + text.at(place) - '0');
                place++;
            }
            place = text.afterBlanks(place);
            return number;
        }

        private static boolean isDigit(int sign) {
            return sign >= '0' && sign <= '9';
        }

        /** 0 if the steps are a way of some sentence, else which step is wrong. */
        int putTogether(Grammar grammar, Way to) {
            trees = grammar;
            way = to;
            way.clear();
            for (int step = 0; step < size; step++) {
                if (!canBeThere(step)) {
                    return NOT_THERE - step;
                }
                way.addStep(tree[step], step == 0 ? NONE : into[step], step == 0 ? NONE : at[step]);
            }
            int lacking = firstLacking(PLACE, 0);
            if (lacking != NONE) {
                return NO_HOST - lacking;
            }
            lacking = firstLacking(BRANCH, MUST_GUEST);
            return lacking == NONE ? 0 : GUEST_MISSING - lacking;
        }

        private boolean canBeThere(int step) {
            if (!trees.hasTree(tree[step]) || (trees.absent >> tree[step] & 1) == 1) {
                return false;
            }
            if (step == 0) {
                return (trees.hostsAtStart() >> tree[step] & 1) == 1;
            }
            int host = into[step];
            if (host >= step || !trees.hasNode(tree[host], at[step])) {
                return false;
            }
            int node = trees.base[tree[host]] + at[step];
            if (way.inside[host * TREE_NODE_ROOM + at[step]] != NONE) {
                return false;
            }
            return fits(tree[step], node);
        }

        private boolean fits(int itsTree, int node) {
            int label = trees.label[node];
            if (trees.kind[node] == BRANCH) {
                return trees.mark[node] != NO_GUEST && (trees.guestsOf[label] >> itsTree & 1) == 1;
            }
            return trees.kind[node] == PLACE && (trees.hostsOf[label] >> itsTree & 1) == 1;
        }

        /** The first step with a node of a kind and a mark into which nothing is put. */
        private int firstLacking(int kind, int mark) {
            for (int step = 0; step < size; step++) {
                int base = trees.base[tree[step]];
                for (int node = 0; node < trees.sizeOf(tree[step]); node++) {
                    boolean sought = trees.kind[base + node] == kind && trees.mark[base + node] == mark;
                    if (sought && way.inside[step * TREE_NODE_ROOM + node] == NONE) {
                        return step;
                    }
                }
            }
            return NONE;
        }
    }
}
