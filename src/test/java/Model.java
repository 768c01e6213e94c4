import java.util.ArrayList;
import java.util.HashMap;
import java.util.LinkedHashMap;
import java.util.List;
import java.util.Map;
import java.util.TreeMap;

/**
 * The document told again, plainly and wastefully, to compare HoleDesk with: kinds are their signs in a
 * string, trees are copied whole ahead of each act, offers are judged by putting them into a copy.
 */
final class Model {
    static final int BAD = -1, FULL = -2, FINDING = -3, STATE = -4, CAUGHT = -6, NONE = -9;
    static final int[] ARITY = {0, 0, 0, 0, 2, 2, 2, 2, 1, 2, 2, 3, 2, 1, 1, 1};

    static final class Tree {
        int birth, sort, v = NONE, k = NONE;
        List<Tree> kids = new ArrayList<>();
        String asked, made;
        int reason;

        Tree(int birth, int sort) {
            this.birth = birth;
            this.sort = sort;
        }

        Tree copy() {
            Tree t = new Tree(birth, sort);
            t.v = v;
            t.k = k;
            t.asked = asked;
            t.made = made;
            t.reason = reason;
            for (Tree kid : kids) {
                t.kids.add(kid.copy());
            }
            return t;
        }

        void all(List<Tree> into) {
            into.add(this);
            for (Tree kid : kids) {
                kid.all(into);
            }
        }

        List<Tree> all() {
            List<Tree> list = new ArrayList<>();
            all(list);
            return list;
        }
    }

    record Was(Tree top, int cursor) { }

    List<String> kinds = new ArrayList<>(List.of("?", "w", "t"));
    Tree top = new Tree(0, 0);
    int cursor = 0;
    int births = 1;
    List<Was> past = new ArrayList<>();
    Tree[] shelf = new Tree[6];
    int[] boxNodes = new int[0];
    Map<Integer, int[]> sortAndNumber = new HashMap<>();
    int lastAsked, lastFinding;
    int[] found = new int[6];

    Model() {
        settle();
    }

    // ---- kinds: signs in a string

    static int end(String s, int from) {
        char c = s.charAt(from);
        return c == 'f' || c == 'p' ? end(s, end(s, from + 1)) : from + 1;
    }

    static String first(String s) {
        return s.substring(1, end(s, 1));
    }

    static String second(String s) {
        return s.substring(end(s, 1));
    }

    static String cap(String s) {
        return s.length() > 40 ? "?" : s;
    }

    static boolean meets(String a, String b) {
        if (a.equals("?") || b.equals("?")) {
            return true;
        }
        if (a.charAt(0) != b.charAt(0)) {
            return false;
        }
        return a.length() == 1 || (meets(first(a), first(b)) && meets(second(a), second(b)));
    }

    static String together(String a, String b) {
        if (a.equals("?")) {
            return b;
        }
        if (b.equals("?") || a.length() == 1) {
            return a;
        }
        return cap(a.charAt(0) + together(first(a), first(b)) + together(second(a), second(b)));
    }

    boolean isKind(int k) {
        return k >= 0 && k < kinds.size();
    }

    int kind(boolean pair, int a, int b) {
        if (!isKind(a) || !isKind(b)) {
            return BAD;
        }
        String s = (pair ? "p" : "f") + kinds.get(a) + kinds.get(b);
        if (s.length() > 40) {
            return BAD;
        }
        if (kinds.contains(s)) {
            return kinds.indexOf(s);
        }
        if (kinds.size() == 40) {
            return FULL;
        }
        kinds.add(s);
        return kinds.size() - 1;
    }

    int kindOf(int kind, int what) {
        if (!isKind(kind) || what < 0 || what > 3) {
            return BAD;
        }
        String s = kinds.get(kind);
        if (what == 0) {
            return "?wtfp".indexOf(s.charAt(0));
        }
        if (what == 3) {
            return s.length();
        }
        return s.length() == 1 ? NONE : kinds.indexOf(what == 1 ? first(s) : second(s));
    }

    int meet(int a, int b) {
        return !isKind(a) || !isKind(b) ? BAD : meets(kinds.get(a), kinds.get(b)) ? 1 : 0;
    }

    // ---- judging: names by what is around

    static final class Around {
        final int letter, binder;
        final String kind;
        final Around outer;

        Around(int letter, int binder, String kind, Around outer) {
            this.letter = letter;
            this.binder = binder;
            this.kind = kind;
            this.outer = outer;
        }

        static Around find(Around a, int letter) {
            return a == null || a.letter == letter ? a : find(a.outer, letter);
        }
    }

    String judge(Tree t, String asked, Around around) {
        t.asked = asked;
        t.reason = 0;
        t.made = make(t, asked, around);
        if (t.reason == 0 && asked != null && t.sort != 10 && t.sort != 11 && !meets(asked, t.made)) {
            t.reason = 6;
        }
        return t.reason == 0 ? t.made : "?";
    }

    String make(Tree t, String asked, Around around) {
        List<Tree> p = t.kids;
        switch (t.sort) {
            case 0: return "?";
            case 1: return "w";
            case 2: return "t";
            case 3: {
                Around b = Around.find(around, t.v);
                if (b == null) {
                    t.reason = 1;
                    return "?";
                }
                return b.kind;
            }
            case 4: case 5: case 6: case 7:
                judge(p.get(0), "w", around);
                judge(p.get(1), "w", around);
                return t.sort == 7 ? "t" : "w";
            case 8: {
                String k = kinds.get(t.k);
                Around in = new Around(t.v, t.birth, k, around);
                if (asked != null && asked.startsWith("f")) {
                    String made = judge(p.get(0), second(asked), in);
                    if (!meets(k, first(asked))) {
                        t.reason = 4;
                    }
                    return cap("f" + k + made);
                }
                return cap("f" + k + judge(p.get(0), "?".equals(asked) ? "?" : null, in));
            }
            case 9: {
                String f = judge(p.get(0), null, around);
                if (f.startsWith("f")) {
                    judge(p.get(1), first(f), around);
                    return second(f);
                }
                judge(p.get(1), "?", around);
                if (!f.equals("?") && p.get(0).reason == 0) {
                    p.get(0).reason = 2;
                }
                return "?";
            }
            case 10: {
                String x = judge(p.get(0), null, around);
                return judge(p.get(1), asked, new Around(t.v, t.birth, x, around));
            }
            case 11: {
                judge(p.get(0), "t", around);
                String a = judge(p.get(1), asked, around);
                String b = judge(p.get(2), asked, around);
                if (asked != null) {
                    return asked;
                }
                if (meets(a, b)) {
                    return together(a, b);
                }
                t.reason = 5;
                return "?";
            }
            case 12: {
                String forA = null, forB = null;
                if ("?".equals(asked)) {
                    forA = "?";
                    forB = "?";
                } else if (asked != null && asked.startsWith("p")) {
                    forA = first(asked);
                    forB = second(asked);
                }
                String a = judge(p.get(0), forA, around);
                return cap("p" + a + judge(p.get(1), forB, around));
            }
            case 13: case 14: {
                String a = judge(p.get(0), null, around);
                if (a.startsWith("p")) {
                    return t.sort == 13 ? first(a) : second(a);
                }
                if (!a.equals("?") && p.get(0).reason == 0) {
                    p.get(0).reason = 3;
                }
                return "?";
            }
            default:
                judge(p.get(0), kinds.get(t.k), around);
                return kinds.get(t.k);
        }
    }

    /** For each NAME by its birth the birth of its binder, -1 for none. */
    static void binders(Tree t, Around around, Map<Integer, Integer> into) {
        if (t.sort == 3) {
            Around b = Around.find(around, t.v);
            into.put(t.birth, b == null ? -1 : b.binder);
        }
        for (int i = 0; i < t.kids.size(); i++) {
            boolean in = t.sort == 8 || (t.sort == 10 && i == 1);
            binders(t.kids.get(i), in ? new Around(t.v, t.birth, "", around) : around, into);
        }
    }

    static Map<Integer, Integer> binders(Tree t) {
        Map<Integer, Integer> map = new HashMap<>();
        binders(t, null, map);
        return map;
    }

    void settle() {
        judge(top, null, null);
        for (Tree t : top.all()) {
            sortAndNumber.put(t.birth, new int[] {t.sort, t.v});
        }
    }

    Tree at(int birth) {
        return at(top, birth);
    }

    static Tree at(Tree in, int birth) {
        for (Tree t : in.all()) {
            if (t.birth == birth) {
                return t;
            }
        }
        return null;
    }

    static Tree above(Tree in, int birth) {
        for (Tree t : in.all()) {
            for (Tree kid : t.kids) {
                if (kid.birth == birth) {
                    return t;
                }
            }
        }
        return null;
    }

    static int placeIn(Tree parent, int birth) {
        for (int i = 0; i < parent.kids.size(); i++) {
            if (parent.kids.get(i).birth == birth) {
                return i;
            }
        }
        throw new IllegalStateException();
    }

    /** The tree with another one where a birth is. */
    static Tree swap(Tree in, int birth, Tree now) {
        Tree parent = above(in, birth);
        if (parent == null) {
            return now;
        }
        parent.kids.set(placeIn(parent, birth), now);
        return in;
    }

    // ---- the sheet

    int nodes() {
        return top.all().size();
    }

    int cursor() {
        return cursor;
    }

    int told(int birth, int what) {
        Tree t = at(birth);
        if (t == null || what < 0 || what > 6) {
            return BAD;
        }
        Tree up = above(top, birth);
        return new int[] {t.sort, t.v, t.k, up == null ? NONE : up.birth,
            up == null ? NONE : placeIn(up, birth), ARITY[t.sort], t.reason}[what];
    }

    int part(int birth, int i) {
        Tree t = at(birth);
        if (t == null) {
            return BAD;
        }
        return i < 0 || i >= t.kids.size() ? found(2) : t.kids.get(i).birth;
    }

    int found(int f) {
        lastFinding = f;
        found[f]++;
        return FINDING;
    }

    int sign(int birth, boolean asked, int i) {
        Tree t = at(birth);
        if (t == null || i < 0) {
            return BAD;
        }
        String s = asked ? t.asked : t.made;
        return s == null || i >= s.length() ? NONE : s.charAt(i);
    }

    int hole(int i, boolean frames) {
        List<Integer> list = new ArrayList<>();
        for (Tree t : top.all()) {
            if (frames ? t.reason > 0 : t.sort == 0) {
                list.add(t.birth);
            }
        }
        return i < 0 || i >= list.size() ? NONE : list.get(i);
    }

    int go(int way) {
        if (way < 0 || way > 5) {
            return BAD;
        }
        Tree up = above(top, cursor);
        int to = -1;
        if (way == 0 && up != null) {
            to = up.birth;
        } else if (way == 1 && !at(cursor).kids.isEmpty()) {
            to = at(cursor).kids.get(0).birth;
        } else if ((way == 2 || way == 3) && up != null) {
            int i = placeIn(up, cursor) + (way == 2 ? 1 : -1);
            to = i < 0 || i >= up.kids.size() ? -1 : up.kids.get(i).birth;
        } else if (way == 4) {
            boolean behind = false;
            for (Tree t : top.all()) {
                if (behind && t.sort == 0) {
                    to = t.birth;
                    break;
                }
                behind |= t.birth == cursor;
            }
        } else if (way == 5) {
            to = top.birth;
        }
        if (to < 0) {
            return STATE;
        }
        cursor = to;
        return to;
    }

    int seek(int birth) {
        if (at(birth) == null) {
            return BAD;
        }
        cursor = birth;
        return 1;
    }

    // ---- acts

    static boolean hasV(int sort) {
        return sort == 1 || sort == 2 || sort == 3 || sort == 8 || sort == 10;
    }

    static boolean badV(int sort, int v) {
        return (sort == 2 && (v < 0 || v > 1)) || ((sort == 3 || sort == 8 || sort == 10) && (v < 0 || v > 25));
    }

    void remember() {
        past.add(new Was(top.copy(), cursor));
        if (past.size() > 20) {
            past.remove(0);
        }
    }

    void acted() {
        stale = true;
        settle();
    }

    int put(int sort, int v, int k) {
        if (sort < 0 || sort > 15 || badV(sort, v) || ((sort == 8 || sort == 15) && !isKind(k))) {
            return BAD;
        }
        Tree was = at(cursor);
        if (sort == 0 || (ARITY[sort] == 0 && was.sort != 0)) {
            return STATE;
        }
        int moreNodes = 1 + ARITY[sort] - 1;
        int moreBirths = was.sort == 0 ? 1 + ARITY[sort] : ARITY[sort];
        if (nodes() + moreNodes > 60 || births + moreBirths > 3000) {
            return FULL;
        }
        remember();
        Tree t = new Tree(births++, sort);
        if (hasV(sort)) {
            t.v = v;
        }
        if (sort == 8 || sort == 15) {
            t.k = k;
        }
        top = swap(top, cursor, t);
        if (was.sort != 0) {
            t.kids.add(was);
        }
        while (t.kids.size() < ARITY[sort]) {
            t.kids.add(new Tree(births++, 0));
        }
        cursor = t.birth;
        acted();
        return t.birth;
    }

    int take() {
        if (at(cursor).sort == 0) {
            return STATE;
        }
        if (births >= 3000) {
            return FULL;
        }
        remember();
        Tree t = new Tree(births++, 0);
        top = swap(top, cursor, t);
        cursor = t.birth;
        acted();
        return cursor;
    }

    int unwrap(int i) {
        Tree t = at(cursor);
        if (t.kids.isEmpty()) {
            return STATE;
        }
        if (i < 0 || i >= t.kids.size()) {
            return found(2);
        }
        remember();
        Tree kid = t.kids.get(i);
        top = swap(top, cursor, kid);
        cursor = kid.birth;
        acted();
        return cursor;
    }

    int write(int v) {
        Tree t = at(cursor);
        if (t.sort < 1 || t.sort > 3) {
            return STATE;
        }
        if (badV(t.sort, v)) {
            return BAD;
        }
        remember();
        int was = t.v;
        t.v = v;
        acted();
        return was;
    }

    int rename(int v) {
        if (v < 0 || v > 25) {
            return BAD;
        }
        Tree t = at(cursor);
        if (t.sort != 8 && t.sort != 10) {
            return STATE;
        }
        Map<Integer, Integer> before = binders(top);
        Tree changed = top.copy();
        int many = 0;
        for (Tree n : changed.all()) {
            if (n.birth == cursor) {
                n.v = v;
            } else if (n.sort == 3 && before.get(n.birth) == cursor) {
                n.v = v;
                many++;
            }
        }
        if (!binders(changed).equals(before)) {
            return CAUGHT;
        }
        remember();
        top = changed;
        acted();
        return many;
    }

    int move(int hole) {
        Tree h = at(hole);
        if (h == null) {
            return BAD;
        }
        Tree t = at(cursor);
        if (h.sort != 0 || hole == cursor || at(t, hole) != null) {
            return STATE;
        }
        if (births >= 3000) {
            return FULL;
        }
        Tree changed = top.copy();
        Tree moved = at(changed, cursor);
        changed = swap(changed, cursor, new Tree(births, 0));
        changed = swap(changed, hole, moved);
        Map<Integer, Integer> before = binders(top);
        Map<Integer, Integer> after = binders(changed);
        if (!before.equals(after)) {
            return CAUGHT;
        }
        remember();
        top = changed;
        births++;
        acted();
        return births - 1;
    }

    int shelve(int place) {
        if (place < 0 || place > 5) {
            return BAD;
        }
        shelf[place] = at(cursor).copy();
        return shelf[place].all().size();
    }

    int fill(int place) {
        if (place < 0 || place > 5) {
            return BAD;
        }
        if (at(cursor).sort != 0) {
            return STATE;
        }
        int many = shelf[place] == null ? 0 : shelf[place].all().size();
        if (nodes() - 1 + many > 60 || births + many > 3000) {
            return FULL;
        }
        if (many == 0) {
            return found(1);
        }
        remember();
        Tree t = shelf[place].copy();
        for (Tree n : t.all()) {
            n.birth = births++;
        }
        filledBy.put(cursor, t.birth);
        top = swap(top, cursor, t);
        cursor = t.birth;
        settle();
        return cursor;
    }

    int undo() {
        if (past.isEmpty()) {
            return STATE;
        }
        Was was = past.remove(past.size() - 1);
        top = was.top();
        cursor = was.cursor();
        acted();
        return past.size();
    }

    List<int[]> offered() {
        List<int[]> list = new ArrayList<>();
        for (int x = 0; x < 26; x++) {
            Tree t = top.copy();
            Tree name = new Tree(-5, 3);
            name.v = x;
            t = swap(t, cursor, name);
            if (binders(t).get(-5) != -1 && fits(t)) {
                list.add(new int[] {3, x});
            }
        }
        for (int sort : new int[] {1, 2, 4, 5, 6, 7, 8, 9, 10, 11, 12, 13, 14, 15}) {
            Tree node = new Tree(-5, sort);
            node.v = 0;
            node.k = 0;
            for (int i = 0; i < ARITY[sort]; i++) {
                node.kids.add(new Tree(-6, 0));
            }
            if (fits(swap(top.copy(), cursor, node))) {
                list.add(new int[] {sort, NONE});
            }
        }
        return list;
    }

    boolean fits(Tree whole) {
        judge(whole, null, null);
        return at(whole, -5).reason == 0;
    }

    int offers() {
        return at(cursor).sort != 0 ? STATE : offered().size();
    }

    int offer(int i, int what) {
        if (what < 0 || what > 1) {
            return BAD;
        }
        if (at(cursor).sort != 0) {
            return STATE;
        }
        List<int[]> list = offered();
        return i < 0 || i >= list.size() ? NONE : list.get(i)[what];
    }

    // ---- working

    static abstract class Val { }

    static final class Whole extends Val {
        final int n;
        Whole(int n) { this.n = n; }
    }

    static final class Truth extends Val {
        final boolean yes;
        Truth(boolean yes) { this.yes = yes; }
    }

    static final class Closure extends Val {
        final int def;
        final TreeMap<Integer, Val> sees;
        Closure(int def, TreeMap<Integer, Val> sees) { this.def = def; this.sees = sees; }
    }

    static final class Couple extends Val {
        final Val a, b;
        final boolean open;
        Couple(Val a, Val b) {
            this.a = a;
            this.b = b;
            this.open = Model.open(a) || Model.open(b);
        }
    }

    static abstract class Left extends Val { }

    static final class LeftHole extends Left {
        final int hole;
        final TreeMap<Integer, Val> sees;
        LeftHole(int hole, TreeMap<Integer, Val> sees) { this.hole = hole; this.sees = sees; }
    }

    static final class LeftName extends Left {
        final int x;
        LeftName(int x) { this.x = x; }
    }

    static final class LeftFrame extends Left {
        final Val in;
        LeftFrame(Val in) { this.in = in; }
    }

    static final class LeftAct extends Left {
        final int node, sort;
        final List<Val> with;
        final TreeMap<Integer, Val> sees;
        LeftAct(int node, int sort, List<Val> with, TreeMap<Integer, Val> sees) {
            this.node = node;
            this.sort = sort;
            this.with = with;
            this.sees = sees;
        }
    }

    static final class Stop extends RuntimeException {
        final int outcome, where;
        Stop(int outcome, int where) {
            super(null, null, false, false);
            this.outcome = outcome;
            this.where = where;
        }
    }

    boolean stale;
    Map<Integer, Integer> filledBy = new HashMap<>();
    Map<Integer, Integer> reasonsThen = new HashMap<>();
    int limit, stepCount, stoppedAt = NONE, outcome = NONE;
    Val result;
    String text = "";
    List<LeftHole> textHoles = new ArrayList<>();

    int work(int n) {
        if (n < 0 || n > 300) {
            return BAD;
        }
        return run(n, () -> begin(top, new TreeMap<>(), 1));
    }

    int resume(int n) {
        if (n < 0 || n > 300) {
            return BAD;
        }
        if (outcome != 0 && outcome != 1 || stale) {
            return STATE;
        }
        for (Tree t : top.all()) {
            if (reasonsThen.containsKey(t.birth) && reasonsThen.get(t.birth) != t.reason) {
                return STATE;
            }
        }
        Val before = result;
        return run(n, () -> goOn(before, 1));
    }

    int run(int n, java.util.function.Supplier<Val> how) {
        limit = n;
        stepCount = 0;
        stoppedAt = NONE;
        result = null;
        text = "";
        textHoles = new ArrayList<>();
        try {
            result = how.get();
            outcome = open(result) ? 1 : 0;
            text = text(result, textHoles);
        } catch (Stop s) {
            outcome = s.outcome;
            stoppedAt = s.where;
        }
        stale = false;
        filledBy.clear();
        reasonsThen.clear();
        for (Tree t : top.all()) {
            reasonsThen.put(t.birth, t.reason);
        }
        return outcome;
    }

    static boolean open(Val v) {
        return v instanceof Left || (v instanceof Couple c && c.open);
    }

    void step(int within, int due) {
        if (stepCount == limit || within > 60) {
            throw new Stop(4, due);
        }
        stepCount++;
    }

    Val begin(Tree t, TreeMap<Integer, Val> sees, int within) {
        step(within, t.birth);
        if (t.reason == 1) {
            return new LeftName(t.v);
        }
        Val v = done(t, sees, within);
        return t.reason == 0 ? v : new LeftFrame(v);
    }

    Val done(Tree t, TreeMap<Integer, Val> sees, int within) {
        switch (t.sort) {
            case 0: return new LeftHole(t.birth, sees);
            case 1: return new Whole(t.v);
            case 2: return new Truth(t.v == 1);
            case 3: return sees.get(t.v);
            case 8: return new Closure(t.birth, sees);
            case 10: {
                TreeMap<Integer, Val> more = new TreeMap<>(sees);
                more.put(t.v, begin(t.kids.get(0), sees, within + 1));
                return begin(t.kids.get(1), more, within + 1);
            }
            case 11:
                return act(t.birth, 11, List.of(begin(t.kids.get(0), sees, within + 1)), sees, within);
            case 15:
                return begin(t.kids.get(0), sees, within + 1);
            default: {
                List<Val> with = new ArrayList<>();
                for (Tree kid : t.kids) {
                    with.add(begin(kid, sees, within + 1));
                }
                return act(t.birth, t.sort, with, sees, within);
            }
        }
    }

    Val act(int node, int sort, List<Val> with, TreeMap<Integer, Val> sees, int within) {
        Val a = with.get(0);
        Val b = with.size() > 1 ? with.get(1) : null;
        boolean waits = a instanceof Left;
        switch (sort) {
            case 12:
                return new Couple(a, b);
            case 9:
                if (a instanceof Closure c) {
                    Tree def = at(c.def);
                    TreeMap<Integer, Val> more = new TreeMap<>(c.sees);
                    more.put(def.v, b);
                    return begin(def.kids.get(0), more, within + 1);
                }
                break;
            case 11:
                if (a instanceof Truth t) {
                    return begin(at(node).kids.get(t.yes ? 1 : 2), sees, within + 1);
                }
                break;
            case 13: case 14:
                if (a instanceof Couple c) {
                    return sort == 13 ? c.a : c.b;
                }
                break;
            default:
                if (a instanceof Whole x && b instanceof Whole y) {
                    if (sort == 6 && y.n == 0) {
                        throw new Stop(2, node);
                    }
                    return sort == 7 ? new Truth(x.n < y.n)
                        : new Whole(sort == 4 ? x.n + y.n : sort == 5 ? x.n * y.n : x.n / y.n);
                }
                waits |= b instanceof Left;
        }
        if (!waits) {
            throw new Stop(3, node);
        }
        return new LeftAct(node, sort, with, sort == 11 ? sees : null);
    }

    TreeMap<Integer, Val> goOnAll(TreeMap<Integer, Val> sees, int within) {
        TreeMap<Integer, Val> on = new TreeMap<>();
        for (Map.Entry<Integer, Val> e : sees.entrySet()) {
            on.put(e.getKey(), goOn(e.getValue(), within));
        }
        return on;
    }

    Val goOn(Val v, int within) {
        step(within, NONE);
        if (v instanceof Closure c) {
            return new Closure(c.def, goOnAll(c.sees, within + 1));
        }
        if (v instanceof Couple c) {
            Val a = goOn(c.a, within + 1);
            return new Couple(a, goOn(c.b, within + 1));
        }
        if (v instanceof LeftFrame f) {
            return new LeftFrame(goOn(f.in, within + 1));
        }
        if (v instanceof LeftHole h) {
            TreeMap<Integer, Val> sees = goOnAll(h.sees, within + 1);
            Integer fill = filledBy.get(h.hole);
            while (fill != null && filledBy.containsKey(fill)) {
                fill = filledBy.get(fill);
            }
            return fill == null ? new LeftHole(h.hole, sees) : begin(at(fill), sees, within + 1);
        }
        if (v instanceof LeftAct a) {
            List<Val> with = new ArrayList<>();
            for (Val w : a.with) {
                with.add(goOn(w, within + 1));
            }
            TreeMap<Integer, Val> sees = a.sees == null ? null : goOnAll(a.sees, within + 1);
            return act(a.node, a.sort, with, sees, within);
        }
        return v;
    }

    static String text(Val v, List<LeftHole> holes) {
        StringBuilder b = new StringBuilder();
        Map<Integer, LeftHole> at = new LinkedHashMap<>();
        text(v, b, at);
        for (Map.Entry<Integer, LeftHole> e : at.entrySet()) {
            if (e.getKey() < 400) {
                holes.add(e.getValue());
            }
        }
        return b.length() > 400 ? b.substring(0, 400) : b.toString();
    }

    static void text(Val v, StringBuilder b, Map<Integer, LeftHole> at) {
        if (b.length() > 400) {
            return;
        }
        if (v instanceof Whole w) {
            b.append(w.n);
        } else if (v instanceof Truth t) {
            b.append(t.yes ? "yes" : "no");
        } else if (v instanceof Closure c) {
            b.append('d').append(c.def);
        } else if (v instanceof Couple c) {
            b.append('[');
            text(c.a, b, at);
            b.append(' ');
            text(c.b, b, at);
            b.append(']');
        } else if (v instanceof LeftHole h) {
            at.put(b.length(), h);
            b.append('?').append(h.hole);
        } else if (v instanceof LeftName n) {
            b.append('!').append((char) ('a' + n.x));
        } else if (v instanceof LeftFrame f) {
            b.append('{');
            text(f.in, b, at);
            b.append('}');
        } else if (v instanceof LeftAct a) {
            String[] words = {"", "", "", "", "+", "*", "/", "<", "", "use", "", "pick", "", "first", "second"};
            b.append('(').append(words[a.sort]);
            for (Val w : a.with) {
                b.append(' ');
                text(w, b, at);
            }
            if (a.sort == 11) {
                b.append(' ').append(a.node);
            }
            b.append(')');
        }
    }

    int steps() {
        return stepCount;
    }

    int where() {
        return stoppedAt;
    }

    static int byteOf(String s, int i) {
        return i == -1 ? s.length() : i < 0 || i >= s.length() ? NONE : s.charAt(i);
    }

    int value(int i) {
        return result == null ? NONE : byteOf(text, i);
    }

    int left(int i) {
        return i < 0 || i >= textHoles.size() ? NONE : textHoles.get(i).hole;
    }

    int seen(int i, int x, int j) {
        if (x < 0 || x > 25) {
            return BAD;
        }
        if (i < 0 || i >= textHoles.size() || !textHoles.get(i).sees.containsKey(x)) {
            return NONE;
        }
        return byteOf(text(textHoles.get(i).sees.get(x), new ArrayList<>()), j);
    }

    // ---- the box

    int box(int n) {
        if (n > 8) {
            return BAD;
        }
        if (n < 0) {
            return found(5);
        }
        boxNodes = new int[n];
        java.util.Arrays.fill(boxNodes, -1);
        return n;
    }

    boolean beyond(int i) {
        return i < 0 || i >= boxNodes.length;
    }

    int keep(int i, int birth) {
        if (at(birth) == null) {
            return BAD;
        }
        if (beyond(i)) {
            return found(2);
        }
        boxNodes[i] = birth;
        return 1;
    }

    int boxed(int i, int sort) {
        if (sort != 1 && sort != 3) {
            return BAD;
        }
        if (beyond(i)) {
            return found(2);
        }
        if (boxNodes[i] < 0) {
            return found(1);
        }
        int[] sv = sortAndNumber.get(boxNodes[i]);
        if (sv[0] != sort) {
            return found(3);
        }
        lastAsked = sv[1];
        return 1;
    }

    int share(int i, int j) {
        if (beyond(i) || beyond(j)) {
            return found(2);
        }
        if (boxNodes[i] < 0 || boxNodes[j] < 0) {
            return found(1);
        }
        int[] a = sortAndNumber.get(boxNodes[i]);
        int[] b = sortAndNumber.get(boxNodes[j]);
        if (a[0] != 1 || b[0] != 1) {
            return found(3);
        }
        if (b[1] == 0) {
            return found(4);
        }
        lastAsked = java.math.BigInteger.valueOf(1000).multiply(java.math.BigInteger.valueOf(a[1]))
            .divide(java.math.BigInteger.valueOf(b[1])).intValue();
        return 1;
    }

    int asked() {
        return lastAsked;
    }

    int count(int what) {
        int framed = 0, holes = 0, shelved = 0;
        for (Tree t : top.all()) {
            framed += t.reason != 0 ? 1 : 0;
            holes += t.sort == 0 ? 1 : 0;
        }
        for (Tree t : shelf) {
            shelved += t == null ? 0 : t.all().size();
        }
        return what < 0 || what > 6 ? BAD
            : new int[] {kinds.size(), births, past.size(), framed, holes, shelved, outcome}[what];
    }

    int finding() {
        return lastFinding;
    }

    int findings(int f) {
        return f < 1 || f > 5 ? BAD : found[f];
    }

    long digest() {
        long h = 17;
        for (Tree t : top.all()) {
            for (long v : new long[] {t.birth, t.sort, t.v, t.k, t.reason}) {
                h = 31 * h + v;
            }
        }
        h = 31 * h + cursor;
        return 31 * h + births;
    }
}
