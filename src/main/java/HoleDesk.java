/**
 * A desk on which a program with holes is changed by acts that leave it whole, judged by kinds, and
 * worked as far as its holes let it. The numbered promises are in the document.
 */
public final class HoleDesk {
    public static final int BAD = -1, FULL = -2, FINDING = -3, STATE = -4, CAUGHT = -6, NONE = -9;

    private static final int NOTHING = 1, BEYOND = 2, UNLIKE = 3, NOUGHT = 4, SIZE = 5;

    private static final int HOLE = 0, NUMBER = 1, TRUTH = 2, NAME = 3, SUM = 4, TIMES = 5, SHARE = 6, LESS = 7;
    private static final int DEF = 8, USE = 9, LET = 10, PICK = 11, PAIR = 12, FIRST = 13, SECOND = 14, TOLD = 15;
    private static final int[] PARTS = {0, 0, 0, 0, 2, 2, 2, 2, 1, 2, 2, 3, 2, 1, 1, 1};

    private static final int UNKNOWN = 0, IS_WHOLE = 1, IS_TRUTH = 2, FROM_TO = 3, PAIR_OF = 4;
    private static final int FREELY = -1;

    private static final int LETTERS = 26, PLACES = 6, MOST_BOXED = 8, MOST_NODES = 60, MOST_BIRTHS = 3000;
    private static final int MOST_KINDS = 40, MOST_SIZE = 40, MOST_UNDONE = 20, MOST_STEPS = 300;
    private static final int MOST_WITHIN = 60, MOST_BYTES = 400;

    private static final int RUNNING = -1, DONE = 0, OPEN = 1, REFUSED = 2, CLASH = 3, SPENT = 4;

    private final Kinds kinds = new Kinds();
    private final Sheet sheet = new Sheet();
    private final Judge judge = new Judge(kinds);
    private final Worker worker = new Worker();
    private final Writer written = new Writer();
    private final Writer glimpse = new Writer();
    private final Copy[] shelf = new Copy[PLACES];
    private final Node[] trials = new Node[PARTS.length];
    private final int[] offeredSorts = new int[LETTERS + PARTS.length];
    private final int[] offeredNames = new int[LETTERS + PARTS.length];
    private final Node[] box = new Node[MOST_BOXED];
    private final int[] found = new int[SIZE + 1];
    private int boxPlaces = 0;
    private int lastAsked = 0;
    private int lastFinding = 0;
    private boolean changedSince = false;

    public HoleDesk() {
        for (int i = 0; i < PLACES; i++) {
            shelf[i] = new Copy();
        }
        for (int sort = NUMBER; sort < trials.length; sort++) {
            trials[sort] = trialOf(sort);
        }
        judge.judgeAll(sheet.top);
    }

    // ---- 1 kinds

    public int kind(boolean pair, int a, int b) {
        int shape = pair ? PAIR_OF : FROM_TO;
        if (!kinds.has(a) || !kinds.has(b) || kinds.sizeWith(a, b) > MOST_SIZE) {
            return BAD;
        }
        int known = kinds.numberOf(shape, a, b);
        if (known >= 0) {
            return known;
        }
        return kinds.told >= MOST_KINDS ? FULL : kinds.tell(shape, a, b);
    }

    public int kindOf(int kind, int what) {
        if (!kinds.has(kind)) {
            return BAD;
        }
        switch (what) {
            case 0:
                return kinds.shape[kind];
            case 1:
                return kinds.one[kind];
            case 2:
                return kinds.two[kind];
            case 3:
                return kinds.size[kind];
            default:
                return BAD;
        }
    }

    public int meet(int a, int b) {
        if (!kinds.has(a) || !kinds.has(b)) {
            return BAD;
        }
        return kinds.doMeet(a, b) ? 1 : 0;
    }

    // ---- 2 the sheet, judging

    public int nodes() {
        return sheet.size;
    }

    public int cursor() {
        return sheet.cursor.birth;
    }

    public int told(int birth, int what) {
        Node node = sheet.find(birth);
        return node == null ? BAD : toldOf(node, what);
    }

    public int part(int birth, int i) {
        Node node = sheet.find(birth);
        if (node == null) {
            return BAD;
        }
        return node.hasPart(i) ? node.parts[i].birth : refuse(BEYOND);
    }

    public int sign(int birth, boolean asked, int i) {
        Node node = sheet.find(birth);
        if (node == null || i < 0) {
            return BAD;
        }
        int kind = asked ? node.asked : node.made;
        return kind == FREELY ? NONE : kinds.signOf(kind, i);
    }

    public int hole(int i, boolean frames) {
        int at = 0;
        for (int n = 0; n < sheet.size; n++) {
            Node node = sheet.order[n];
            if (frames ? node.reason != 0 : node.sort == HOLE) {
                if (at == i) {
                    return node.birth;
                }
                at++;
            }
        }
        return NONE;
    }

    // ---- 3 acts

    public int go(int way) {
        if (way < 0 || way > 5) {
            return BAD;
        }
        Node there = sheet.goal(way);
        if (there == null) {
            return STATE;
        }
        sheet.cursor = there;
        return there.birth;
    }

    public int seek(int birth) {
        Node node = sheet.find(birth);
        if (node == null) {
            return BAD;
        }
        sheet.cursor = node;
        return 1;
    }

    public int put(int sort, int v, int k) {
        if (sort < HOLE || sort > TOLD || !fits(sort, v) || (bearsKind(sort) && !kinds.has(k))) {
            return BAD;
        }
        Node at = sheet.cursor;
        boolean onHole = at.sort == HOLE;
        int parts = PARTS[sort];
        if (sort == HOLE || (parts == 0 && !onHole)) {
            return STATE;
        }
        if (sheet.size + parts > MOST_NODES || sheet.lacksBirths(onHole ? parts + 1 : parts)) {
            return FULL;
        }
        sheet.remember();
        Node node = sheet.born(sort, bearsNumber(sort) ? v : NONE, bearsKind(sort) ? k : NONE);
        sheet.replace(at, node);
        if (!onHole) {
            node.hang(0, at);
        }
        for (int i = onHole ? 0 : 1; i < parts; i++) {
            node.hang(i, sheet.born(HOLE, NONE, NONE));
        }
        sheet.cursor = node;
        changed();
        return node.birth;
    }

    public int take() {
        Node at = sheet.cursor;
        if (at.sort == HOLE) {
            return STATE;
        }
        if (sheet.lacksBirths(1)) {
            return FULL;
        }
        sheet.remember();
        Node hole = sheet.born(HOLE, NONE, NONE);
        sheet.replace(at, hole);
        sheet.cursor = hole;
        changed();
        return hole.birth;
    }

    public int unwrap(int i) {
        Node at = sheet.cursor;
        if (at.parts.length == 0) {
            return STATE;
        }
        if (!at.hasPart(i)) {
            return refuse(BEYOND);
        }
        sheet.remember();
        Node part = at.parts[i];
        sheet.replace(at, part);
        sheet.cursor = part;
        changed();
        return part.birth;
    }

    public int write(int v) {
        Node at = sheet.cursor;
        if (at.sort != NUMBER && at.sort != TRUTH && at.sort != NAME) {
            return STATE;
        }
        if (!fits(at.sort, v)) {
            return BAD;
        }
        sheet.remember();
        int before = at.v;
        at.v = v;
        changed();
        return before;
    }

    public int rename(int v) {
        if (!isLetter(v)) {
            return BAD;
        }
        Node at = sheet.cursor;
        if (at.sort != DEF && at.sort != LET) {
            return STATE;
        }
        if (sheet.renamingCatches(at, v)) {
            return CAUGHT;
        }
        sheet.remember();
        int names = sheet.renameAll(at, v);
        changed();
        return names;
    }

    public int move(int hole) {
        Node to = sheet.find(hole);
        if (to == null) {
            return BAD;
        }
        Node at = sheet.cursor;
        if (to.sort != HOLE || sheet.isWithin(to, at)) {
            return STATE;
        }
        if (sheet.lacksBirths(1)) {
            return FULL;
        }
        if (sheet.movingCatches(at, to)) {
            return CAUGHT;
        }
        sheet.remember();
        Node behind = sheet.born(HOLE, NONE, NONE);
        sheet.replace(at, behind);
        sheet.replace(to, at);
        changed();
        return behind.birth;
    }

    public int shelve(int place) {
        if (!isPlace(place)) {
            return BAD;
        }
        shelf[place].copyOf(sheet, sheet.cursor);
        return shelf[place].size;
    }

    public int fill(int place) {
        if (!isPlace(place)) {
            return BAD;
        }
        Node at = sheet.cursor;
        if (at.sort != HOLE) {
            return STATE;
        }
        Copy copy = shelf[place];
        if (sheet.size - 1 + copy.size > MOST_NODES || sheet.lacksBirths(copy.size)) {
            return FULL;
        }
        if (copy.size == 0) {
            return refuse(NOTHING);
        }
        sheet.remember();
        Node top = copy.bornInto(sheet);
        sheet.replace(at, top);
        at.filler = top;
        sheet.cursor = top;
        settle();
        return top.birth;
    }

    public int undo() {
        if (sheet.kept == 0) {
            return STATE;
        }
        sheet.restore();
        changed();
        return sheet.kept;
    }

    public int offers() {
        return sheet.cursor.sort == HOLE ? listOffers() : STATE;
    }

    public int offer(int i, int what) {
        if (what != 0 && what != 1) {
            return BAD;
        }
        if (sheet.cursor.sort != HOLE) {
            return STATE;
        }
        int many = listOffers();
        if (i < 0 || i >= many) {
            return NONE;
        }
        return what == 0 ? offeredSorts[i] : offeredNames[i];
    }

    // ---- 4 working

    public int work(int n) {
        if (!isStepLimit(n)) {
            return BAD;
        }
        return noteOutcome(worker.workAll(sheet.top, n));
    }

    public int resume(int n) {
        if (!isStepLimit(n)) {
            return BAD;
        }
        if (worker.result == null || changedSince || sheet.reasonsChanged()) {
            return STATE;
        }
        return noteOutcome(worker.goOnAll(n));
    }

    public int steps() {
        return worker.begun;
    }

    public int where() {
        return worker.stoppedAt;
    }

    public int value(int i) {
        return worker.result == null ? NONE : written.byteAt(i);
    }

    public int left(int i) {
        Value hole = leftHole(i);
        return hole == null ? NONE : hole.node.birth;
    }

    public int seen(int i, int x, int j) {
        if (!isLetter(x)) {
            return BAD;
        }
        Value hole = leftHole(i);
        Value bound = hole == null ? null : worker.lookUp(hole.sees, x);
        if (bound == null) {
            return NONE;
        }
        glimpse.writeAll(bound);
        return glimpse.byteAt(j);
    }

    // ---- 5 the desk's box, what is told

    public int box(int n) {
        if (n > MOST_BOXED) {
            return BAD;
        }
        if (n < 0) {
            return refuse(SIZE);
        }
        for (int i = 0; i < MOST_BOXED; i++) {
            box[i] = null;
        }
        boxPlaces = n;
        return n;
    }

    public int keep(int i, int birth) {
        Node node = sheet.find(birth);
        if (node == null) {
            return BAD;
        }
        if (!inBox(i)) {
            return refuse(BEYOND);
        }
        box[i] = node;
        return 1;
    }

    public int boxed(int i, int sort) {
        if (sort != NUMBER && sort != NAME) {
            return BAD;
        }
        if (!inBox(i)) {
            return refuse(BEYOND);
        }
        Node node = box[i];
        if (node == null) {
            return refuse(NOTHING);
        }
        if (node.sort != sort) {
            return refuse(UNLIKE);
        }
        lastAsked = node.v;
        return 1;
    }

    public int share(int i, int j) {
        if (!inBox(i) || !inBox(j)) {
            return refuse(BEYOND);
        }
        Node over = box[i];
        Node under = box[j];
        if (over == null || under == null) {
            return refuse(NOTHING);
        }
        if (over.sort != NUMBER || under.sort != NUMBER) {
            return refuse(UNLIKE);
        }
        if (under.v == 0) {
            return refuse(NOUGHT);
        }
        lastAsked = (int) (1000L * over.v / under.v);
        return 1;
    }

    public int asked() {
        return lastAsked;
    }

    public int count(int what) {
        switch (what) {
            case 0:
                return kinds.told;
            case 1:
                return sheet.births;
            case 2:
                return sheet.kept;
            case 3:
                return countNodes(true);
            case 4:
                return countNodes(false);
            case 5:
                return countShelved();
            case 6:
                return worker.outcome == RUNNING ? NONE : worker.outcome;
            default:
                return BAD;
        }
    }

    public int finding() {
        return lastFinding;
    }

    public int findings(int f) {
        return f < NOTHING || f > SIZE ? BAD : found[f];
    }

    public long digest() {
        long h = 17;
        for (int i = 0; i < sheet.size; i++) {
            Node node = sheet.order[i];
            h = 31 * h + node.birth;
            h = 31 * h + node.sort;
            h = 31 * h + node.v;
            h = 31 * h + node.k;
            h = 31 * h + node.reason;
        }
        h = 31 * h + sheet.cursor.birth;
        return 31 * h + sheet.births;
    }

    // ---- what the calls share

    private static boolean isLetter(int x) {
        return x >= 0 && x < LETTERS;
    }

    private static boolean isPlace(int place) {
        return place >= 0 && place < PLACES;
    }

    private static boolean isStepLimit(int n) {
        return n >= 0 && n <= MOST_STEPS;
    }

    private static boolean bearsNumber(int sort) {
        return sort == NUMBER || sort == TRUTH || sort == NAME || sort == DEF || sort == LET;
    }

    private static boolean bearsKind(int sort) {
        return sort == DEF || sort == TOLD;
    }

    private static boolean fits(int sort, int v) {
        if (sort == TRUTH) {
            return v == 0 || v == 1;
        }
        return sort == NUMBER || !bearsNumber(sort) || isLetter(v);
    }

    private boolean inBox(int i) {
        return i >= 0 && i < boxPlaces;
    }

    private int refuse(int finding) {
        lastFinding = finding;
        found[finding]++;
        return FINDING;
    }

    private int toldOf(Node node, int what) {
        switch (what) {
            case 0:
                return node.sort;
            case 1:
                return node.v;
            case 2:
                return node.k;
            case 3:
                return node.parent == null ? NONE : node.parent.birth;
            case 4:
                return node.parent == null ? NONE : node.place;
            case 5:
                return node.parts.length;
            case 6:
                return node.reason;
            default:
                return BAD;
        }
    }

    private int countNodes(boolean framed) {
        int many = 0;
        for (int i = 0; i < sheet.size; i++) {
            Node node = sheet.order[i];
            if (framed ? node.reason != 0 : node.sort == HOLE) {
                many++;
            }
        }
        return many;
    }

    private int countShelved() {
        int many = 0;
        for (int i = 0; i < PLACES; i++) {
            many += shelf[i].size;
        }
        return many;
    }

    private void settle() {
        sheet.list();
        judge.judgeAll(sheet.top);
    }

    // fill() alone leaves a value that resume() can go on with.
    private void changed() {
        changedSince = true;
        settle();
    }

    private int noteOutcome(int outcome) {
        changedSince = false;
        sheet.noteReasons();
        if (worker.result != null) {
            written.writeAll(worker.result);
        }
        return outcome;
    }

    private Value leftHole(int i) {
        if (worker.result == null || i < 0 || i >= written.holeCount) {
            return null;
        }
        return written.holes[i];
    }

    private static Node trialOf(int sort) {
        Node trial = new Node(NONE, sort, bearsNumber(sort) ? 0 : NONE, bearsKind(sort) ? UNKNOWN : NONE);
        for (int i = 0; i < trial.parts.length; i++) {
            trial.hang(i, new Node(NONE, HOLE, NONE, NONE));
        }
        return trial;
    }

    /**
     * The nearest node that binds a letter where a node stands, null if none does. One binder (or null)
     * may be looked at as if it bore another letter than it does, to see ahead what renaming it brings.
     */
    private static Node nearestBinder(Node from, int letter, Node renamed, int as) {
        Node below = from;
        for (Node up = from.parent; up != null; up = up.parent) {
            boolean binds = up.sort == DEF || (up.sort == LET && below.place == 1);
            if (binds && (up == renamed ? as : up.v) == letter) {
                return up;
            }
            below = up;
        }
        return null;
    }

    private int listOffers() {
        Node hole = sheet.cursor;
        int many = 0;
        for (int x = 0; x < LETTERS; x++) {
            if (nearestBinder(hole, x, null, NONE) != null) {
                trials[NAME].v = x;
                many = addOffer(many, NAME, x);
            }
        }
        for (int sort = NUMBER; sort <= TOLD; sort++) {
            if (sort != NAME) {
                many = addOffer(many, sort, NONE);
            }
        }
        return many;
    }

    private int addOffer(int many, int sort, int x) {
        if (!judge.wouldFit(trials[sort], sheet.cursor)) {
            return many;
        }
        offeredSorts[many] = sort;
        offeredNames[many] = x;
        return many + 1;
    }

    /** A node of the sheet. It keeps its birth, sort and kind for good; v and where it hangs may change. */
    private static final class Node {
        final int birth;
        final int sort;
        final int k;
        final Node[] parts;
        int v;
        Node parent = null;
        int place = 0;
        int rank = 0;
        int asked = FREELY;
        int made = UNKNOWN;
        int reason = 0;
        /** The reason when the sheet was last worked; NONE for a node that was not there then. */
        int reasonThen = NONE;
        /** What fill() put where this hole was. */
        Node filler = null;

        Node(int birth, int sort, int v, int k) {
            this.birth = birth;
            this.sort = sort;
            this.v = v;
            this.k = k;
            this.parts = new Node[PARTS[sort]];
        }

        boolean hasPart(int i) {
            return i >= 0 && i < parts.length;
        }

        void hang(int i, Node part) {
            parts[i] = part;
            part.parent = this;
            part.place = i;
        }

        /** What the others take it to have made. */
        int madeForOthers() {
            return reason == 0 ? made : UNKNOWN;
        }

        /** What stands now where this hole was, null if it was not filled. */
        Node latestFiller() {
            Node latest = filler;
            while (latest != null && latest.filler != null) {
                latest = latest.filler;
            }
            return latest;
        }

        /** The node from the left behind this one and all of its parts. */
        Node behind() {
            for (Node at = this; at.parent != null; at = at.parent) {
                if (at.place + 1 < at.parent.parts.length) {
                    return at.parent.parts[at.place + 1];
                }
            }
            return null;
        }

        /** The node from the left behind this one, a node ahead of its parts. */
        Node following() {
            return parts.length > 0 ? parts[0] : behind();
        }
    }

    /** Rows of kinds: those that were told come first, those that one judging makes stand behind. */
    private static final class Kinds {
        // Far more than one judging needs: a node makes a row at most, a PICK one for each kind with parts
        // (19 of them in a SIZE of 40) in what its parts made together.
        private static final int ROWS = MOST_KINDS + 1400;
        final int[] shape = new int[ROWS];
        final int[] one = new int[ROWS];
        final int[] two = new int[ROWS];
        final int[] size = new int[ROWS];
        int told = 0;
        int used = MOST_KINDS;

        Kinds() {
            for (int base = UNKNOWN; base <= IS_TRUTH; base++) {
                setRow(base, base, NONE, NONE, 1);
            }
            told = IS_TRUTH + 1;
        }

        private void setRow(int row, int itsShape, int a, int b, int itsSize) {
            shape[row] = itsShape;
            one[row] = a;
            two[row] = b;
            size[row] = itsSize;
        }

        boolean has(int kind) {
            return kind >= 0 && kind < told;
        }

        int sizeWith(int a, int b) {
            return 1 + size[a] + size[b];
        }

        int numberOf(int itsShape, int a, int b) {
            for (int i = FROM_TO; i < told; i++) {
                if (shape[i] == itsShape && one[i] == a && two[i] == b) {
                    return i;
                }
            }
            return -1;
        }

        int tell(int itsShape, int a, int b) {
            setRow(told, itsShape, a, b, sizeWith(a, b));
            return told++;
        }

        void forgetMade() {
            used = MOST_KINDS;
        }

        int make(int itsShape, int a, int b) {
            int itsSize = sizeWith(a, b);
            if (itsSize > MOST_SIZE || used >= ROWS) {
                return UNKNOWN;
            }
            setRow(used, itsShape, a, b, itsSize);
            return used++;
        }

        boolean doMeet(int a, int b) {
            return meeting(a, b, 0);
        }

        private boolean meeting(int a, int b, int depth) {
            if (shape[a] == UNKNOWN || shape[b] == UNKNOWN || depth > MOST_SIZE) {
                return true;
            }
            if (shape[a] != shape[b]) {
                return false;
            }
            return shape[a] < FROM_TO
                    || (meeting(one[a], one[b], depth + 1) && meeting(two[a], two[b], depth + 1));
        }

        int together(int a, int b, int depth) {
            if (shape[a] == UNKNOWN || depth > MOST_SIZE) {
                return b;
            }
            if (shape[b] == UNKNOWN || shape[a] < FROM_TO) {
                return a;
            }
            int first = together(one[a], one[b], depth + 1);
            int second = together(two[a], two[b], depth + 1);
            return make(shape[a], first, second);
        }

        /** Sign i of a kind, its parts' signs behind its own. */
        int signOf(int kind, int i) {
            int at = kind;
            int still = i;
            for (int depth = 0; depth <= MOST_SIZE && still < size[at]; depth++) {
                if (still == 0) {
                    return "?wtfp".charAt(shape[at]);
                }
                still--;
                int firstSize = size[one[at]];
                if (still < firstSize) {
                    at = one[at];
                } else {
                    still -= firstSize;
                    at = two[at];
                }
            }
            return NONE;
        }
    }

    /** Judging: what each node is asked for, what it made, and its reason to be in a frame. */
    private static final class Judge {
        private static final int DEEPEST = MOST_NODES + 4;
        private final Kinds kinds;

        Judge(Kinds kinds) {
            this.kinds = kinds;
        }

        void judgeAll(Node top) {
            kinds.forgetMade();
            ask(top, FREELY, 0);
        }

        /**
         * Whether a trial node would be in no frame where a hole is. What the hole is asked for does not
         * hang on what fills it, so that the sheet need not be judged again.
         */
        boolean wouldFit(Node trial, Node hole) {
            int before = kinds.used;
            trial.parent = hole.parent;
            trial.place = hole.place;
            int made = ask(trial, hole.asked, 0);
            boolean unfit = hole.parent != null && hole.place == 0 && reasonBelow(hole.parent.sort, made) != 0;
            kinds.used = before;
            return trial.reason == 0 && !unfit;
        }

        private int ask(Node node, int asked, int depth) {
            if (depth > DEEPEST) {
                return UNKNOWN;
            }
            node.asked = asked;
            node.reason = 0;
            node.made = makes(node, asked, depth + 1);
            boolean mayClash = asked != FREELY && node.reason == 0 && node.sort != LET && node.sort != PICK;
            if (mayClash && !kinds.doMeet(asked, node.made)) {
                node.reason = 6;
            }
            return node.madeForOthers();
        }

        private int makes(Node node, int asked, int depth) {
            switch (node.sort) {
                case NUMBER:
                    return IS_WHOLE;
                case TRUTH:
                    return IS_TRUTH;
                case NAME:
                    return nameMakes(node);
                case SUM:
                case TIMES:
                case SHARE:
                case LESS:
                    ask(node.parts[0], IS_WHOLE, depth);
                    ask(node.parts[1], IS_WHOLE, depth);
                    return node.sort == LESS ? IS_TRUTH : IS_WHOLE;
                case DEF:
                    return defMakes(node, asked, depth);
                case USE:
                    return useMakes(node, depth);
                case LET:
                    ask(node.parts[0], FREELY, depth);
                    return ask(node.parts[1], asked, depth);
                case PICK:
                    return pickMakes(node, asked, depth);
                case PAIR:
                    return pairMakes(node, asked, depth);
                case FIRST:
                case SECOND:
                    return halfMakes(node, depth);
                case TOLD:
                    ask(node.parts[0], node.k, depth);
                    return node.k;
                default:
                    return UNKNOWN;
            }
        }

        private int nameMakes(Node name) {
            Node binder = nearestBinder(name, name.v, null, NONE);
            if (binder == null) {
                name.reason = 1;
                return UNKNOWN;
            }
            return binder.sort == DEF ? binder.k : binder.parts[0].madeForOthers();
        }

        private int defMakes(Node def, int asked, int depth) {
            int forBody = FREELY;
            if (asked == UNKNOWN) {
                forBody = UNKNOWN;
            } else if (asked != FREELY && kinds.shape[asked] == FROM_TO) {
                forBody = kinds.two[asked];
                if (!kinds.doMeet(def.k, kinds.one[asked])) {
                    def.reason = 4;
                }
            }
            return kinds.make(FROM_TO, def.k, ask(def.parts[0], forBody, depth));
        }

        private int useMakes(Node use, int depth) {
            int used = ask(use.parts[0], FREELY, depth);
            if (kinds.shape[used] == FROM_TO) {
                ask(use.parts[1], kinds.one[used], depth);
                return kinds.two[used];
            }
            if (use.parts[0].reason == 0) {
                use.parts[0].reason = reasonBelow(USE, used);
            }
            ask(use.parts[1], UNKNOWN, depth);
            return UNKNOWN;
        }

        private int pickMakes(Node pick, int asked, int depth) {
            ask(pick.parts[0], IS_TRUTH, depth);
            int yes = ask(pick.parts[1], asked, depth);
            int no = ask(pick.parts[2], asked, depth);
            if (asked != FREELY) {
                return asked;
            }
            if (kinds.doMeet(yes, no)) {
                return kinds.together(yes, no, 0);
            }
            pick.reason = 5;
            return UNKNOWN;
        }

        private int pairMakes(Node pair, int asked, int depth) {
            int forFirst = FREELY;
            int forSecond = FREELY;
            if (asked == UNKNOWN) {
                forFirst = UNKNOWN;
                forSecond = UNKNOWN;
            } else if (asked != FREELY && kinds.shape[asked] == PAIR_OF) {
                forFirst = kinds.one[asked];
                forSecond = kinds.two[asked];
            }
            int first = ask(pair.parts[0], forFirst, depth);
            int second = ask(pair.parts[1], forSecond, depth);
            return kinds.make(PAIR_OF, first, second);
        }

        private int halfMakes(Node half, int depth) {
            int made = ask(half.parts[0], FREELY, depth);
            if (kinds.shape[made] == PAIR_OF) {
                return half.sort == FIRST ? kinds.one[made] : kinds.two[made];
            }
            if (half.parts[0].reason == 0) {
                half.parts[0].reason = reasonBelow(half.sort, made);
            }
            return UNKNOWN;
        }

        /** The reason that a node of a sort gives its first part for what that made, 0 if none. */
        private int reasonBelow(int sort, int made) {
            int shape = kinds.shape[made];
            if (sort == USE) {
                return shape == FROM_TO || shape == UNKNOWN ? 0 : 2;
            }
            if (sort == FIRST || sort == SECOND) {
                return shape == PAIR_OF || shape == UNKNOWN ? 0 : 3;
            }
            return 0;
        }
    }

    /** The tree of nodes with its cursor, and how both were ahead of the latest acts. */
    private static final class Sheet {
        final Node[] order = new Node[MOST_NODES];
        Node top;
        Node cursor;
        int size = 0;
        int births = 0;
        private final Snapshot[] past = new Snapshot[MOST_UNDONE];
        private int newest = 0;
        int kept = 0;

        Sheet() {
            top = born(HOLE, NONE, NONE);
            cursor = top;
            list();
            for (int i = 0; i < MOST_UNDONE; i++) {
                past[i] = new Snapshot();
            }
        }

        Node born(int sort, int v, int k) {
            return new Node(births++, sort, v, k);
        }

        boolean lacksBirths(int many) {
            return births + many > MOST_BIRTHS;
        }

        /** Writes down the nodes from the left, after a change. */
        void list() {
            size = 0;
            Node node = top;
            while (node != null && size < MOST_NODES) {
                node.rank = size;
                order[size++] = node;
                node = node.following();
            }
        }

        Node find(int birth) {
            for (int i = 0; i < size; i++) {
                if (order[i].birth == birth) {
                    return order[i];
                }
            }
            return null;
        }

        /** Hangs a node where another one hangs. */
        void replace(Node old, Node node) {
            Node above = old.parent;
            if (above == null) {
                node.parent = null;
                top = node;
            } else {
                above.hang(old.place, node);
            }
        }

        /** How many nodes stand at and below a node. */
        int sizeAt(Node node) {
            Node next = node.behind();
            return (next == null ? size : next.rank) - node.rank;
        }

        boolean isWithin(Node node, Node root) {
            return node.rank >= root.rank && node.rank < root.rank + sizeAt(root);
        }

        /** Where a way leads from the cursor, null if nowhere. */
        Node goal(int way) {
            Node above = cursor.parent;
            switch (way) {
                case 0:
                    return above;
                case 1:
                    return partOf(cursor, 0);
                case 2:
                    return above == null ? null : partOf(above, cursor.place + 1);
                case 3:
                    return above == null ? null : partOf(above, cursor.place - 1);
                case 4:
                    return holeBehind(cursor);
                default:
                    return top;
            }
        }

        private Node partOf(Node node, int i) {
            return node.hasPart(i) ? node.parts[i] : null;
        }

        private Node holeBehind(Node node) {
            for (int i = node.rank + 1; i < size; i++) {
                if (order[i].sort == HOLE) {
                    return order[i];
                }
            }
            return null;
        }

        /** Whether a name would change its binder, if a binder were called otherwise with all that it binds. */
        boolean renamingCatches(Node binder, int letter) {
            for (int i = 0; i < size; i++) {
                Node name = order[i];
                if (name.sort == NAME) {
                    Node before = nearestBinder(name, name.v, null, NONE);
                    int called = before == binder ? letter : name.v;
                    if (nearestBinder(name, called, binder, letter) != before) {
                        return true;
                    }
                }
            }
            return false;
        }

        int renameAll(Node binder, int letter) {
            int names = 0;
            for (int i = 0; i < size; i++) {
                Node name = order[i];
                if (name.sort == NAME && nearestBinder(name, name.v, null, NONE) == binder) {
                    names++;
                    name.v = letter;
                }
            }
            binder.v = letter;
            return names;
        }

        /** Whether a name would change its binder, if what stands at a node came to where a hole is. */
        boolean movingCatches(Node root, Node hole) {
            int end = root.rank + sizeAt(root);
            for (int i = root.rank; i < end && i < size; i++) {
                Node name = order[i];
                if (name.sort == NAME) {
                    Node before = nearestBinder(name, name.v, null, NONE);
                    boolean fromOutside = before == null || !isWithin(before, root);
                    if (fromOutside && nearestBinder(hole, name.v, null, NONE) != before) {
                        return true;
                    }
                }
            }
            return false;
        }

        void noteReasons() {
            for (int i = 0; i < size; i++) {
                order[i].reasonThen = order[i].reason;
            }
        }

        boolean reasonsChanged() {
            for (int i = 0; i < size; i++) {
                Node node = order[i];
                if (node.reasonThen != NONE && node.reasonThen != node.reason) {
                    return true;
                }
            }
            return false;
        }

        void remember() {
            newest = (newest + 1) % MOST_UNDONE;
            past[newest].noteAll(this);
            kept = Math.min(kept + 1, MOST_UNDONE);
        }

        void restore() {
            past[newest].bringBack(this);
            newest = (newest + MOST_UNDONE - 1) % MOST_UNDONE;
            kept--;
        }
    }

    /** How the sheet was: its nodes from the left, what each one bore and where it hung. */
    private static final class Snapshot {
        private final Node[] nodes = new Node[MOST_NODES];
        private final Node[] parents = new Node[MOST_NODES];
        private final int[] places = new int[MOST_NODES];
        private final int[] numbers = new int[MOST_NODES];
        private int size = 0;
        private Node cursor = null;

        void noteAll(Sheet sheet) {
            size = sheet.size;
            cursor = sheet.cursor;
            for (int i = 0; i < size; i++) {
                Node node = sheet.order[i];
                nodes[i] = node;
                parents[i] = node.parent;
                places[i] = node.place;
                numbers[i] = node.v;
            }
        }

        void bringBack(Sheet sheet) {
            for (int i = 0; i < size; i++) {
                Node node = nodes[i];
                node.v = numbers[i];
                node.filler = null;
                if (parents[i] == null) {
                    node.parent = null;
                    sheet.top = node;
                } else {
                    parents[i].hang(places[i], node);
                }
            }
            sheet.cursor = cursor;
        }
    }

    /** A place of the shelf: the nodes of a tree from the left, each one's parent by its number here. */
    private static final class Copy {
        private final int[] sorts = new int[MOST_NODES];
        private final int[] numbers = new int[MOST_NODES];
        private final int[] itsKinds = new int[MOST_NODES];
        private final int[] parents = new int[MOST_NODES];
        private final int[] places = new int[MOST_NODES];
        int size = 0;

        void copyOf(Sheet sheet, Node root) {
            size = sheet.sizeAt(root);
            for (int i = 0; i < size; i++) {
                Node node = sheet.order[root.rank + i];
                sorts[i] = node.sort;
                numbers[i] = node.v;
                itsKinds[i] = node.k;
                parents[i] = i == 0 ? NONE : node.parent.rank - root.rank;
                places[i] = node.place;
            }
        }

        /** Makes its nodes anew; null if it has none. */
        Node bornInto(Sheet sheet) {
            Node[] fresh = new Node[size];
            for (int i = 0; i < size; i++) {
                fresh[i] = sheet.born(sorts[i], numbers[i], itsKinds[i]);
                if (i > 0) {
                    fresh[parents[i]].hang(places[i], fresh[i]);
                }
            }
            return size > 0 ? fresh[0] : null;
        }
    }

    /** What a node sees: a letter's value, and what it sees besides. */
    private static final class Seen {
        int letter = 0;
        Value bound = null;
        Seen rest = null;
    }

    /** A value. Those from HOLE_LEFT on are left. */
    private static final class Value {
        static final int WHOLE = 0, YES_NO = 1, CLOSURE = 2, COUPLE = 3;
        static final int HOLE_LEFT = 4, NAME_LEFT = 5, FRAMED = 6, ACT_LEFT = 7;
        int form = WHOLE;
        int number = 0;
        Node node = null;
        Value one = null;
        Value two = null;
        Seen sees = null;
        /** Whether something is left in it, in pairs too. */
        boolean open = false;

        boolean isLeft() {
            return form >= HOLE_LEFT;
        }
    }

    /** Rows of values that are made once and used again by every second working. */
    private static final class Pool {
        private final Value[] values = new Value[2 * MOST_STEPS + 20];
        private final Seen[] sights = new Seen[MOST_STEPS + 20];
        private int usedValues = 0;
        private int usedSights = 0;

        void clear() {
            usedValues = 0;
            usedSights = 0;
        }

        private Value made(int form, int number, Node node, Seen sees) {
            Value value;
            if (usedValues >= values.length) {
                value = new Value();
            } else {
                if (values[usedValues] == null) {
                    values[usedValues] = new Value();
                }
                value = values[usedValues++];
            }
            value.form = form;
            value.number = number;
            value.node = node;
            value.one = null;
            value.two = null;
            value.sees = sees;
            value.open = value.isLeft();
            return value;
        }

        Value plain(int form, int number) {
            return made(form, number, null, null);
        }

        /** A DEF or a HOLE with what it sees. */
        Value seeing(int form, Node node, Seen sees) {
            return made(form, 0, node, sees);
        }

        Value couple(Value one, Value two) {
            Value value = made(Value.COUPLE, 0, null, null);
            value.one = one;
            value.two = two;
            value.open = one.open || two.open;
            return value;
        }

        Value framed(Value within) {
            Value value = made(Value.FRAMED, 0, null, null);
            value.one = within;
            return value;
        }

        Value act(Node node, Value one, Value two, Seen sees) {
            Value value = made(Value.ACT_LEFT, 0, node, sees);
            value.one = one;
            value.two = two;
            return value;
        }

        Seen bind(int letter, Value bound, Seen rest) {
            Seen seen;
            if (usedSights >= sights.length) {
                seen = new Seen();
            } else {
                if (sights[usedSights] == null) {
                    sights[usedSights] = new Seen();
                }
                seen = sights[usedSights++];
            }
            seen.letter = letter;
            seen.bound = bound;
            seen.rest = rest;
            return seen;
        }
    }

    /** Working the sheet, and going on with what came. A null value says that the working has stopped. */
    private static final class Worker {
        private Pool pool = new Pool();
        private Pool other = new Pool();
        private int limit = 0;
        int begun = 0;
        int outcome = RUNNING;
        int stoppedAt = NONE;
        /** What the latest working came to, null if it came to no value. */
        Value result = null;

        int workAll(Node top, int most) {
            start(most);
            return end(begin(top, null, 0));
        }

        int goOnAll(int most) {
            Value before = result;
            start(most);
            return end(goOn(before, 0));
        }

        Value lookUp(Seen sees, int letter) {
            for (Seen at = sees; at != null; at = at.rest) {
                if (at.letter == letter) {
                    return at.bound;
                }
            }
            return null;
        }

        /** What is gone on with stays in the other pool while its successor is made. */
        private void start(int most) {
            Pool before = pool;
            pool = other;
            other = before;
            pool.clear();
            limit = most;
            begun = 0;
            outcome = RUNNING;
            stoppedAt = NONE;
        }

        private int end(Value value) {
            result = value;
            if (value != null) {
                outcome = value.open ? OPEN : DONE;
            }
            return outcome;
        }

        private Value stop(int why, int birth) {
            outcome = why;
            stoppedAt = birth;
            return null;
        }

        private boolean isSpent(int depth) {
            return begun >= limit || depth >= MOST_WITHIN;
        }

        private Value begin(Node node, Seen sees, int depth) {
            if (isSpent(depth)) {
                return stop(SPENT, node.birth);
            }
            begun++;
            if (node.sort == NAME) {
                return nameValue(node, sees);
            }
            Value value = done(node, sees, depth + 1);
            return value == null || node.reason == 0 ? value : pool.framed(value);
        }

        private Value nameValue(Node name, Seen sees) {
            Value bound = name.reason == 1 ? null : lookUp(sees, name.v);
            if (bound == null) {
                return pool.plain(Value.NAME_LEFT, name.v);
            }
            return name.reason == 0 ? bound : pool.framed(bound);
        }

        private Value done(Node node, Seen sees, int depth) {
            switch (node.sort) {
                case HOLE:
                    return pool.seeing(Value.HOLE_LEFT, node, sees);
                case NUMBER:
                    return pool.plain(Value.WHOLE, node.v);
                case TRUTH:
                    return pool.plain(Value.YES_NO, node.v);
                case DEF:
                    return pool.seeing(Value.CLOSURE, node, sees);
                default:
                    break;
            }
            Value one = begin(node.parts[0], sees, depth);
            if (one == null || node.sort == TOLD) {
                return one;
            }
            if (node.sort == LET) {
                return begin(node.parts[1], pool.bind(node.v, one, sees), depth);
            }
            Value two = null;
            if (takesTwo(node.sort)) {
                two = begin(node.parts[1], sees, depth);
                if (two == null) {
                    return null;
                }
            }
            return act(node, one, two, sees, depth);
        }

        private static boolean takesTwo(int sort) {
            return sort == USE || sort == PAIR || isReckoned(sort);
        }

        private static boolean isReckoned(int sort) {
            return sort >= SUM && sort <= LESS;
        }

        /** Does a node's act with the values of its parts; the second one counts where it takes two. */
        private Value act(Node node, Value one, Value two, Seen sees, int depth) {
            boolean waits = one.isLeft();
            switch (node.sort) {
                case PAIR:
                    return two == null ? null : pool.couple(one, two);
                case USE:
                    if (one.form == Value.CLOSURE) {
                        return begin(one.node.parts[0], pool.bind(one.node.v, two, one.sees), depth);
                    }
                    break;
                case PICK:
                    if (one.form == Value.YES_NO) {
                        return begin(node.parts[one.number == 1 ? 1 : 2], sees, depth);
                    }
                    break;
                case FIRST:
                case SECOND:
                    if (one.form == Value.COUPLE) {
                        return node.sort == FIRST ? one.one : one.two;
                    }
                    break;
                default:
                    if (two != null && one.form == Value.WHOLE && two.form == Value.WHOLE) {
                        return reckon(node, one.number, two.number);
                    }
                    waits = waits || (two != null && two.isLeft());
                    break;
            }
            return waits ? pool.act(node, one, two, node.sort == PICK ? sees : null) : stop(CLASH, node.birth);
        }

        private Value reckon(Node node, int a, int b) {
            switch (node.sort) {
                case SUM:
                    return pool.plain(Value.WHOLE, a + b);
                case TIMES:
                    return pool.plain(Value.WHOLE, a * b);
                case SHARE:
                    return b == 0 ? stop(REFUSED, node.birth) : pool.plain(Value.WHOLE, a / b);
                default:
                    return pool.plain(Value.YES_NO, a < b ? 1 : 0);
            }
        }

        private Value goOn(Value value, int depth) {
            if (isSpent(depth)) {
                return stop(SPENT, NONE);
            }
            begun++;
            switch (value.form) {
                case Value.CLOSURE:
                case Value.HOLE_LEFT:
                    return goOnSeeing(value, depth + 1);
                case Value.COUPLE:
                case Value.ACT_LEFT:
                    return goOnAct(value, depth + 1);
                case Value.FRAMED:
                    Value within = goOn(value.one, depth + 1);
                    return within == null ? null : pool.framed(within);
                default:
                    return pool.plain(value.form, value.number);
            }
        }

        private Value goOnSeeing(Value value, int depth) {
            Seen sees = goOnSights(value.sees, depth);
            if (outcome != RUNNING) {
                return null;
            }
            Node filler = value.node.latestFiller();
            return filler == null ? pool.seeing(value.form, value.node, sees) : begin(filler, sees, depth);
        }

        private Value goOnAct(Value value, int depth) {
            Value one = goOn(value.one, depth);
            Value two = one == null || value.two == null ? null : goOn(value.two, depth);
            if (one == null || (value.two != null && two == null)) {
                return null;
            }
            if (value.form == Value.COUPLE) {
                return two == null ? null : pool.couple(one, two);
            }
            Seen sees = goOnSights(value.sees, depth);
            return outcome == RUNNING ? act(value.node, one, two, sees, depth) : null;
        }

        private Seen goOnSights(Seen sees, int depth) {
            Seen on = null;
            for (int x = 0; x < LETTERS; x++) {
                Value before = lookUp(sees, x);
                if (before != null) {
                    Value bound = goOn(before, depth);
                    if (bound == null) {
                        return null;
                    }
                    on = pool.bind(x, bound, on);
                }
            }
            return on;
        }
    }

    /** Writes a value in bytes, and notes the holes that are among them. */
    private static final class Writer {
        private static final int MOST_TODO = 5 * MOST_BYTES + 5;
        final Value[] holes = new Value[MOST_BYTES];
        int holeCount = 0;
        private final int[] bytes = new int[MOST_BYTES];
        private int size = 0;
        /** What is still to be written, the next one last: a value, or else a sign, or else -1 - a birth. */
        private final Value[] todoValues = new Value[MOST_TODO];
        private final int[] todoSigns = new int[MOST_TODO];
        private int todo = 0;

        /** Byte i of what was written; - 1: how many. */
        int byteAt(int i) {
            if (i == -1) {
                return size;
            }
            return i >= 0 && i < size ? bytes[i] : NONE;
        }

        // Whatever is taken up writes a byte at once and leaves at most five things to do: the room and
        // the turns suffice.
        void writeAll(Value value) {
            size = 0;
            holeCount = 0;
            todo = 0;
            later(value, 0);
            for (int turn = 0; turn < MOST_BYTES && todo > 0; turn++) {
                todo--;
                if (todoValues[todo] != null) {
                    addOne(todoValues[todo]);
                } else if (todoSigns[todo] < 0) {
                    addDigits(-1 - todoSigns[todo]);
                } else {
                    add(todoSigns[todo]);
                }
            }
        }

        private void later(Value value, int sign) {
            if (todo < MOST_TODO) {
                todoValues[todo] = value;
                todoSigns[todo] = sign;
                todo++;
            }
        }

        private void add(int sign) {
            if (size < MOST_BYTES) {
                bytes[size++] = sign;
            }
        }

        private void addText(String text) {
            for (int i = 0; i < text.length(); i++) {
                add(text.charAt(i));
            }
        }

        private void addDigits(int number) {
            long still = number;
            if (still < 0) {
                add('-');
                still = -still;
            }
            for (long unit = 1000000000L; unit > 0; unit /= 10) {
                if (unit == 1 || still >= unit) {
                    add((int) ('0' + still / unit % 10));
                }
            }
        }

        private void addOne(Value value) {
            switch (value.form) {
                case Value.WHOLE:
                    addDigits(value.number);
                    break;
                case Value.YES_NO:
                    addText(value.number == 1 ? "yes" : "no");
                    break;
                case Value.CLOSURE:
                    add('d');
                    addDigits(value.node.birth);
                    break;
                case Value.COUPLE:
                    add('[');
                    later(null, ']');
                    later(value.two, 0);
                    later(null, ' ');
                    later(value.one, 0);
                    break;
                case Value.HOLE_LEFT:
                    if (size < MOST_BYTES) {
                        holes[holeCount++] = value;
                    }
                    add('?');
                    addDigits(value.node.birth);
                    break;
                case Value.NAME_LEFT:
                    add('!');
                    add('a' + value.number);
                    break;
                case Value.FRAMED:
                    add('{');
                    later(null, '}');
                    later(value.one, 0);
                    break;
                default:
                    addAct(value);
                    break;
            }
        }

        private void addAct(Value value) {
            add('(');
            addText(wordOf(value.node.sort));
            later(null, ')');
            if (value.node.sort == PICK) {
                later(null, -1 - value.node.birth);
                later(null, ' ');
            }
            if (value.two != null) {
                later(value.two, 0);
                later(null, ' ');
            }
            later(value.one, 0);
            later(null, ' ');
        }

        private static String wordOf(int sort) {
            switch (sort) {
                case SUM:
                    return "+";
                case TIMES:
                    return "*";
                case SHARE:
                    return "/";
                case LESS:
                    return "<";
                case USE:
                    return "use";
                case PICK:
                    return "pick";
                case FIRST:
                    return "first";
                default:
                    return "second";
            }
        }
    }
}
