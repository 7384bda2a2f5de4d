import java.util.Arrays;

/**
 * A catalogue of the palindromes of a text that grows and shrinks letter by letter.
 * What each call promises stands in the project's document; README.md says how to use the class.
 */
public final class MirrorNodes {
    public static final int BAD = -1, NOT = -2, FULL = -3, NONE = -4, NULL = -11, CAST = -12, INDEX = -13, SIZE = -14;

    private static final int MOST = 48;
    private static final int ALPHABET = 6;
    private static final int FIRST_LETTER = 97;
    private static final int LAST_LETTER = FIRST_LETTER + ALPHABET - 1;
    private static final int MOST_GROWN = 3;
    private static final int MOST_DRAWN = 4;
    private static final int MOST_MORE = 9;
    private static final int MOST_STEPS = 60;
    private static final int MOST_SEED = 999999;
    private static final int IMAGES = 2;
    private static final int SHEETS = 4;
    private static final int LANES = 4;
    private static final int ABSENT = -1;
    private static final int FINE = 0;

    private final Catalogue text;
    // What is only asked is tried out here, so that the text itself never changes by a question.
    private final Catalogue trial;
    private final Acts acts;
    private final Cutting cutting;
    private final Row[] images;
    private final Row tape;
    private final Sheet[] sheets;
    private final int[] grown;
    private final int[] fills;

    public MirrorNodes() {
        text = new Catalogue();
        trial = new Catalogue();
        acts = new Acts();
        cutting = new Cutting();
        images = new Row[IMAGES];
        for (int k = 0; k < IMAGES; k++) {
            images[k] = new Row(ABSENT);
        }
        tape = new Row(0);
        sheets = new Sheet[SHEETS];
        for (int s = 0; s < SHEETS; s++) {
            sheets[s] = new Sheet();
        }
        grown = new int[MOST_GROWN];
        fills = new int[MOST];
    }

    // ---- 1 the text

    public int put(int letter) {
        if (!isLetter(letter)) {
            return BAD;
        }
        if (text.size == MOST) {
            return FULL;
        }
        acts.note(Acts.PUT, text.size, letter);
        return text.add(letter);
    }

    public int pop() {
        if (text.size == 0) {
            return NOT;
        }
        int last = text.lastLetter();
        text.removeLast();
        acts.note(Acts.OFF, text.size, last);
        return last;
    }

    public int change(int place, int letter) {
        if (!isPlace(place) || !isLetter(letter)) {
            return BAD;
        }
        int old = text.letters[place];
        if (old == letter) {
            return NOT;
        }
        text.replace(place, letter);
        acts.note(Acts.CHANGED, place, old);
        return old;
    }

    public int undo() {
        if (acts.size == 0) {
            return NONE;
        }
        acts.takeBackLatest(text);
        return acts.size;
    }

    public int letter(int place) {
        return isPlace(place) ? text.letters[place] : BAD;
    }

    public int node(int node, int what) {
        if (!isNode(node)) {
            return BAD;
        }
        switch (what) {
            case 0:
                return text.length[node];
            case 1:
                return text.firstPlace(node);
            case 2:
                return text.lastPlace(node);
            case 3:
                return text.places(text.letters, text.firstPlace(node), text.length[node]);
            case 4:
                return nodeOrNone(text.link[node]);
            case 5:
                return text.less(node);
            case 6:
                return nodeOrNone(text.series[node]);
            case 7:
                return nodeOrNone(text.core[node]);
            default:
                return BAD;
        }
    }

    // ---- 2 images

    public int keep(int k) {
        if (!within(k, 0, IMAGES - 1)) {
            return BAD;
        }
        images[k].hold(text.letters, text.size);
        return text.size;
    }

    public int back(int k) {
        if (!within(k, 0, IMAGES - 1)) {
            return BAD;
        }
        Row image = images[k];
        if (image.size == ABSENT) {
            return NOT;
        }
        text.load(image.cells, 0, image.size);
        acts.forget();
        return text.size;
    }

    public int common(int k, int what) {
        if (!within(k, 0, IMAGES - 1) || !within(what, 0, 1)) {
            return BAD;
        }
        Row image = images[k];
        if (image.size == ABSENT) {
            return NOT;
        }
        trial.load(image.cells, 0, image.size);
        int shared = 0;
        int longest = 0;
        for (int v = 0; v < trial.nodes; v++) {
            int length = trial.length[v];
            if (text.nodeOf(trial.letters, trial.firstPlace(v), length) != ABSENT) {
                shared++;
                longest = Math.max(longest, length);
            }
        }
        return what == 0 ? shared : longest;
    }

    // ---- 3 asked

    public int ends(int place, int k) {
        if (!isPlace(place) || k < -1) {
            return BAD;
        }
        int node = text.longestAt[place];
        int many = text.depth[node];
        if (k == -1) {
            return many;
        }
        if (k >= many) {
            return NONE;
        }
        for (int i = 0; i < k; i++) {
            node = text.link[node];
        }
        return text.length[node];
    }

    public int groups(int place) {
        if (!isPlace(place)) {
            return BAD;
        }
        int many = 1;
        int node = text.series[text.longestAt[place]];
        for (int i = 0; i < MOST && node < MOST; i++) {
            many++;
            node = text.series[node];
        }
        return many;
    }

    public int cuts(int n, int k) {
        if (!within(n, 0, text.size) || k < -1) {
            return BAD;
        }
        cutting.cut(text, n, false);
        int many = cutting.pieces();
        if (k == -1) {
            return many;
        }
        return k < many ? cutting.pieceLength(k) : NONE;
    }

    public int evens(int n) {
        if (!within(n, 0, text.size)) {
            return BAD;
        }
        cutting.cut(text, n, true);
        int many = cutting.pieces();
        return many < Cutting.FAR ? many : NONE;
    }

    public int in(int i, int j, int what) {
        if (i < 0 || j < i || j > text.size || !within(what, 0, 2)) {
            return BAD;
        }
        trial.load(text.letters, i, j);
        if (what == 2) {
            return trial.nodes;
        }
        int longest = trial.longestNode();
        if (what == 0) {
            return longest == ABSENT ? 0 : trial.length[longest];
        }
        return longest == ABSENT ? NONE : i + trial.firstPlace(longest);
    }

    public int mend(int what) {
        if (what == 0) {
            return text.unlikePairs();
        }
        return what == 1 ? fewestFills() : BAD;
    }

    public int turned(int what) {
        if (!within(what, 0, 1)) {
            return BAD;
        }
        int many = 0;
        int least = NONE;
        for (int k = text.size - 1; k >= 0; k--) {
            if (text.isMirrorTurned(k)) {
                many++;
                least = k;
            }
        }
        return what == 0 ? many : least;
    }

    public int next(int letter, int what) {
        if (!isLetter(letter) || !within(what, 0, 1)) {
            return BAD;
        }
        if (text.size == MOST) {
            return FULL;
        }
        trial.load(text.letters, 0, text.size);
        int longest = trial.add(letter);
        return what == 0 ? longest : trial.nodes - text.nodes;
    }

    public int grow(int n, int k) {
        if (!within(n, 0, MOST_GROWN) || k < -1) {
            return BAD;
        }
        if (text.size + n > MOST) {
            return FULL;
        }
        if (k >= n) {
            return NONE;
        }
        int nodes = growMost(n);
        return k == -1 ? nodes : grown[k];
    }

    public int odds(int n, int m, int what) {
        if (!within(n, 0, MOST_DRAWN) || !within(m, 0, MOST_MORE) || !within(what, 0, 1)) {
            return BAD;
        }
        if (text.size + n > MOST) {
            return FULL;
        }
        int all = rowsOf(n);
        int above = rowsThatBring(n, m);
        int shared = greatestDivisor(above, all);
        if (shared < 1) {
            return BAD;
        }
        return (what == 0 ? above : all) / shared;
    }

    public int walks(int n, int seed, int what) {
        if (!within(n, 0, MOST_STEPS) || !within(seed, 1, MOST_SEED) || !within(what, 0, 1)) {
            return BAD;
        }
        trial.load(text.letters, 0, text.size);
        long x = seed;
        for (int i = 0; i < n; i++) {
            x = 16807L * x % 2147483647L;
            boolean drawnOff = x / 64 % 4 == 0 && trial.size > 0;
            if (drawnOff || trial.size == MOST) {
                trial.removeLast();
            } else {
                trial.add(FIRST_LETTER + (int) (x % ALPHABET));
            }
        }
        return what == 0 ? trial.nodes : trial.size;
    }

    // ---- 4 the tape

    public int feed(int letter) {
        if (!isByte(letter)) {
            return BAD;
        }
        if (tape.size == MOST) {
            return FULL;
        }
        tape.append(letter);
        return tape.size;
    }

    public int clear() {
        int had = tape.size;
        tape.size = 0;
        return had;
    }

    public int find() {
        int node = text.nodeOf(tape.cells, 0, tape.size);
        return node == ABSENT ? NONE : node;
    }

    public int times() {
        return tape.size == 0 ? 0 : text.places(tape.cells, 0, tape.size);
    }

    // ---- 5 sheets

    public int sheet(int sheet, int lane, int n) {
        if (!isSheet(sheet) || !isLane(lane) || n > MOST) {
            return BAD;
        }
        if (n < 0) {
            return SIZE;
        }
        sheets[sheet].begin(lane, n);
        return n;
    }

    public int drop(int sheet) {
        if (!isSheet(sheet)) {
            return BAD;
        }
        int had = sheets[sheet].size;
        if (had == ABSENT) {
            return NULL;
        }
        sheets[sheet].size = ABSENT;
        return had;
    }

    public long item(int sheet, int lane, int i, long v) {
        if (!isSheet(sheet) || !isLane(lane)) {
            return BAD;
        }
        int refusal = sheets[sheet].refusal(lane, i, 1);
        if (refusal != FINE) {
            return refusal;
        }
        return sheets[sheet].store(i, v);
    }

    public int copy(int from, int i, int to, int j, int n) {
        if (!isSheet(from) || !isSheet(to)) {
            return BAD;
        }
        Sheet source = sheets[from];
        Sheet target = sheets[to];
        // Both must be there ahead of any other question: NULL of either goes ahead of CAST and INDEX.
        if (source.size == ABSENT || target.size == ABSENT) {
            return NULL;
        }
        int refusal = target.refusal(source.lane, j, n);
        if (refusal == FINE) {
            refusal = source.refusal(source.lane, i, n);
        }
        if (refusal != FINE) {
            return refusal;
        }
        System.arraycopy(source.items, i, target.items, j, n);
        return n;
    }

    public int spell(int node, int sheet, int lane, int i) {
        if (!isNode(node) || !isSheet(sheet) || !isLane(lane)) {
            return BAD;
        }
        int length = text.length[node];
        int refusal = sheets[sheet].refusal(lane, i, length);
        if (refusal != FINE) {
            return refusal;
        }
        int from = text.firstPlace(node);
        for (int k = 0; k < length; k++) {
            sheets[sheet].store(i + k, text.letters[from + k]);
        }
        return length;
    }

    public int read(int sheet, int lane, int i, int n) {
        if (!isSheet(sheet) || !isLane(lane) || !within(n, 0, MOST)) {
            return BAD;
        }
        Sheet source = sheets[sheet];
        int refusal = source.refusal(lane, i, n);
        if (refusal != FINE) {
            return refusal;
        }
        if (!source.holdsBytes(i, n)) {
            return NOT;
        }
        if (tape.size + n > MOST) {
            return FULL;
        }
        for (int k = 0; k < n; k++) {
            tape.append((int) source.items[i + k]);
        }
        return tape.size;
    }

    public int count(int what) {
        switch (what) {
            case 0:
                return text.size;
            case 1:
                return text.nodes;
            case 2:
                return text.allPlaces();
            case 3:
                return text.evenNodes();
            case 4:
                int longest = text.longestNode();
                return longest == ABSENT ? 0 : text.length[longest];
            case 5:
                return text.nodes == text.size ? 1 : 0;
            case 6:
                return acts.size;
            case 7:
                return tape.size;
            default:
                return BAD;
        }
    }

    // ---- what numbers are as told

    private static boolean within(int value, int least, int greatest) {
        return value >= least && value <= greatest;
    }

    private static boolean isLetter(int value) {
        return within(value, FIRST_LETTER, LAST_LETTER);
    }

    private static boolean isByte(long value) {
        return value >= 0 && value <= 255;
    }

    private static boolean isSheet(int value) {
        return within(value, 0, SHEETS - 1);
    }

    private static boolean isLane(int value) {
        return within(value, 0, LANES - 1);
    }

    private boolean isPlace(int value) {
        return within(value, 0, text.size - 1);
    }

    private boolean isNode(int value) {
        return within(value, 0, text.nodes - 1);
    }

    // The two roots stand behind all nodes and are nodes to nobody outside.
    private static int nodeOrNone(int node) {
        return node < MOST ? node : NONE;
    }

    // ---- questions that try many ways

    // fills[j] holds the answer for the span from the round's i up to j, built from the round before it.
    private int fewestFills() {
        int[] letters = text.letters;
        for (int i = text.size - 1; i >= 0; i--) {
            int inner = 0;
            fills[i] = 0;
            for (int j = i + 1; j < text.size; j++) {
                int withoutFirst = fills[j];
                fills[j] = letters[i] == letters[j] ? inner : 1 + Math.min(withoutFirst, fills[j - 1]);
                inner = withoutFirst;
            }
        }
        return text.size == 0 ? 0 : fills[text.size - 1];
    }

    // Rows come in the order of letters, so the first that brings most is the one that stays.
    private int growMost(int n) {
        int most = ABSENT;
        int all = rowsOf(n);
        startRows(n);
        for (int row = 0; row < all; row++) {
            if (trial.nodes > most) {
                most = trial.nodes;
                System.arraycopy(trial.letters, text.size, grown, 0, n);
            }
            stepRow(n);
        }
        return most;
    }

    private int rowsThatBring(int n, int more) {
        int many = 0;
        int all = rowsOf(n);
        startRows(n);
        for (int row = 0; row < all; row++) {
            if (trial.nodes - text.nodes >= more) {
                many++;
            }
            stepRow(n);
        }
        return many;
    }

    private static int rowsOf(int n) {
        int all = 1;
        for (int i = 0; i < n; i++) {
            all *= ALPHABET;
        }
        return all;
    }

    private void startRows(int n) {
        trial.load(text.letters, 0, text.size);
        trial.lengthen(n);
    }

    // Only the letters in which the next row differs are taken off: most steps touch one letter alone.
    private void stepRow(int n) {
        int taken = 0;
        for (int i = 0; i < n && trial.lastLetter() == LAST_LETTER; i++) {
            trial.removeLast();
            taken++;
        }
        if (taken < n) {
            int following = trial.lastLetter() + 1;
            trial.removeLast();
            trial.add(following);
        }
        trial.lengthen(taken);
    }

    private static int greatestDivisor(int a, int b) {
        int great = a;
        int small = b;
        for (int i = 0; i < MOST && small != 0; i++) {
            int rest = great % small;
            great = small;
            small = rest;
        }
        return great;
    }

    /**
     * A text with its palindromes, one node for each unlike one, in the order in which they came.
     * Nodes are 0 .. nodes - 1; two roots stand behind all nodes: the empty row, and one of length -1,
     * from which a single letter grows as every palindrome does from its core.
     */
    private static final class Catalogue {
        static final int EMPTY = MOST;
        static final int BEFORE = MOST + 1;
        static final int SLOTS = MOST + 2;

        final int[] letters = new int[MOST];
        final int[] longestAt = new int[MOST];
        final int[] length = new int[SLOTS];
        final int[] link = new int[SLOTS];
        final int[] series = new int[SLOTS];
        final int[] core = new int[SLOTS];
        final int[] firstEnd = new int[SLOTS];
        final int[] depth = new int[SLOTS];
        final int[] wider = new int[SLOTS * ALPHABET];
        int size;
        int nodes;

        Catalogue() {
            length[BEFORE] = -1;
            link[EMPTY] = BEFORE;
            link[BEFORE] = BEFORE;
            series[EMPTY] = EMPTY;
            series[BEFORE] = EMPTY;
            Arrays.fill(wider, ABSENT);
        }

        int add(int letter) {
            letters[size] = letter;
            int inner = longestBehind(size == 0 ? EMPTY : longestAt[size - 1], letter);
            int node = wider[edge(inner, letter)];
            if (node == ABSENT) {
                node = create(inner, letter);
            }
            longestAt[size] = node;
            size++;
            return length[node];
        }

        // The longest of a palindrome's endings that has the coming letter ahead of it, too.
        private int longestBehind(int from, int letter) {
            int node = from;
            for (int i = 0; i < SLOTS; i++) {
                int ahead = size - 1 - length[node];
                if (ahead >= 0 && letters[ahead] == letter) {
                    return node;
                }
                node = link[node];
            }
            return BEFORE;
        }

        private int create(int inner, int letter) {
            int node = nodes;
            length[node] = length[inner] + 2;
            core[node] = inner;
            firstEnd[node] = size;
            int shorter = inner == BEFORE ? EMPTY : wider[edge(longestBehind(link[inner], letter), letter)];
            link[node] = shorter;
            depth[node] = depth[shorter] + 1;
            series[node] = less(node) == less(shorter) ? series[shorter] : shorter;
            wider[edge(inner, letter)] = node;
            nodes++;
            return node;
        }

        private static int edge(int node, int letter) {
            return node * ALPHABET + letter - FIRST_LETTER;
        }

        // A letter made a node just if the node's first place ends with it, and then it is the latest node.
        void removeLast() {
            size--;
            int node = longestAt[size];
            if (firstEnd[node] == size) {
                wider[edge(core[node], letters[size])] = ABSENT;
                nodes--;
            }
        }

        void load(int[] row, int from, int to) {
            shorten(0);
            for (int i = from; i < to; i++) {
                add(row[i]);
            }
        }

        void lengthen(int more) {
            for (int i = 0; i < more; i++) {
                add(FIRST_LETTER);
            }
        }

        private void shorten(int left) {
            for (int i = size; i > left; i--) {
                removeLast();
            }
        }

        // Letters taken off stay in their cells until others come there, so those behind can be added anew.
        void replace(int place, int letter) {
            int had = size;
            shorten(place);
            add(letter);
            for (int i = place + 1; i < had; i++) {
                add(letters[i]);
            }
        }

        int lastLetter() {
            return size == 0 ? ABSENT : letters[size - 1];
        }

        int less(int node) {
            return length[node] - length[link[node]];
        }

        int firstPlace(int node) {
            return firstEnd[node] - length[node] + 1;
        }

        int lastPlace(int node) {
            int first = firstPlace(node);
            for (int place = size - length[node]; place > first; place--) {
                if (standsAt(place, letters, first, length[node])) {
                    return place;
                }
            }
            return first;
        }

        boolean standsAt(int place, int[] row, int from, int n) {
            for (int i = 0; i < n; i++) {
                if (letters[place + i] != row[from + i]) {
                    return false;
                }
            }
            return true;
        }

        int places(int[] row, int from, int n) {
            int many = 0;
            for (int place = 0; place + n <= size; place++) {
                if (standsAt(place, row, from, n)) {
                    many++;
                }
            }
            return many;
        }

        int nodeOf(int[] row, int from, int n) {
            for (int node = 0; node < nodes; node++) {
                if (length[node] == n && standsAt(firstPlace(node), row, from, n)) {
                    return node;
                }
            }
            return ABSENT;
        }

        // Of nodes as long the earliest: its first place is the least of all of theirs.
        int longestNode() {
            int longest = ABSENT;
            for (int node = 0; node < nodes; node++) {
                if (longest == ABSENT || length[node] > length[longest]) {
                    longest = node;
                }
            }
            return longest;
        }

        int evenNodes() {
            int many = 0;
            for (int node = 0; node < nodes; node++) {
                if (length[node] % 2 == 0) {
                    many++;
                }
            }
            return many;
        }

        int allPlaces() {
            int many = 0;
            for (int place = 0; place < size; place++) {
                many += depth[longestAt[place]];
            }
            return many;
        }

        int unlikePairs() {
            int many = 0;
            for (int i = 0; i < size / 2; i++) {
                if (letters[i] != letters[size - 1 - i]) {
                    many++;
                }
            }
            return many;
        }

        boolean isMirrorTurned(int k) {
            for (int i = 0; i < size / 2; i++) {
                if (letters[around(k + i)] != letters[around(k + size - 1 - i)]) {
                    return false;
                }
            }
            return true;
        }

        private int around(int place) {
            return place < size ? place : place - size;
        }
    }

    /** The fewest pieces that the first letters of a text can be cut into. */
    private static final class Cutting {
        static final int FAR = 1000;

        final int[] fewest = new int[MOST + 1];
        final int[] firstLength = new int[MOST + 1];

        // From behind, so that each place knows the fewest pieces of all that follows it.
        void cut(Catalogue text, int n, boolean evenOnly) {
            Arrays.fill(fewest, FAR);
            fewest[n] = 0;
            for (int end = n; end > 0; end--) {
                if (fewest[end] < FAR) {
                    reachFrom(end, text, evenOnly);
                }
            }
        }

        // Ends come from behind, so of ways as good the later one has the shorter first piece, and it wins.
        private void reachFrom(int end, Catalogue text, boolean evenOnly) {
            int many = fewest[end] + 1;
            int piece = text.longestAt[end - 1];
            for (int left = text.depth[piece]; left > 0; left--) {
                int length = text.length[piece];
                int start = end - length;
                boolean fits = !evenOnly || length % 2 == 0;
                if (fits && many <= fewest[start]) {
                    fewest[start] = many;
                    firstLength[start] = length;
                }
                piece = text.link[piece];
            }
        }

        int pieces() {
            return fewest[0];
        }

        int pieceLength(int k) {
            int start = 0;
            for (int i = 0; i < k; i++) {
                start += firstLength[start];
            }
            return firstLength[start];
        }
    }

    /** The latest acts, each with what is needed to undo it. */
    private static final class Acts {
        static final int PUT = 0;
        static final int OFF = 1;
        static final int CHANGED = 2;
        static final int UNDOABLE = 24;

        final int[] kinds = new int[UNDOABLE];
        final int[] places = new int[UNDOABLE];
        final int[] letters = new int[UNDOABLE];
        int size;

        void note(int kind, int place, int letter) {
            if (size == UNDOABLE) {
                forgetOldest();
            }
            kinds[size] = kind;
            places[size] = place;
            letters[size] = letter;
            size++;
        }

        private void forgetOldest() {
            size--;
            System.arraycopy(kinds, 1, kinds, 0, size);
            System.arraycopy(places, 1, places, 0, size);
            System.arraycopy(letters, 1, letters, 0, size);
        }

        void takeBackLatest(Catalogue text) {
            size--;
            if (kinds[size] == PUT) {
                text.removeLast();
            } else if (kinds[size] == OFF) {
                text.add(letters[size]);
            } else {
                text.replace(places[size], letters[size]);
            }
        }

        void forget() {
            size = 0;
        }
    }

    /** Some numbers in a row of cells that is used again and again; a size of ABSENT says that none was kept. */
    private static final class Row {
        final int[] cells = new int[MOST];
        int size;

        Row(int size) {
            this.size = size;
        }

        void hold(int[] source, int n) {
            System.arraycopy(source, 0, cells, 0, n);
            size = n;
        }

        void append(int value) {
            cells[size] = value;
            size++;
        }
    }

    /** Items of one lane, in a row of cells that is used again and again; a size of ABSENT says that it is nothing. */
    private static final class Sheet {
        final long[] items = new long[MOST];
        int lane;
        int size = ABSENT;

        void begin(int newLane, int n) {
            Arrays.fill(items, 0L);
            lane = newLane;
            size = n;
        }

        // Why n items from i on can't be had of this sheet as a row of a lane.
        int refusal(int asLane, int i, int n) {
            if (size == ABSENT) {
                return NULL;
            }
            if (lane != asLane) {
                return CAST;
            }
            return i < 0 || n < 0 || i > size - n ? INDEX : FINE;
        }

        long store(int i, long v) {
            items[i] = narrowed(v);
            return items[i];
        }

        private long narrowed(long v) {
            switch (lane) {
                case 0:
                    return (char) v;
                case 1:
                    return (short) v;
                case 2:
                    return (int) v;
                default:
                    return v;
            }
        }

        boolean holdsBytes(int i, int n) {
            for (int k = 0; k < n; k++) {
                if (!isByte(items[i + k])) {
                    return false;
                }
            }
            return true;
        }
    }
}
