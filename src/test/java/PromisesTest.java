/** Each promise of the document: what is ordinary, the edges that it names, and wrong inputs. */
public final class PromisesTest {
    static final int MIN = Integer.MIN_VALUE, MAX = Integer.MAX_VALUE;

    static void due(String what, long got, long want) {
        Desk.due(what, got, want);
    }

    static void due(String what, String got, String want) {
        Desk.due(what, got, want);
    }

    public static void main(String[] args) {
        newObject();
        kinds();
        sheetToldByNumbers();
        signs();
        reasons();
        going();
        putting();
        taking();
        writing();
        renaming();
        moving();
        shelving();
        undoing();
        offering();
        offersAgreeWithPut();
        working();
        spending();
        goingOn();
        goingOnRefused();
        written();
        boxes();
        counting();
        findingsAndDigest();
        Desk.end();
    }

    static void newObject() {
        HoleDesk d = new HoleDesk();
        due("1: nodes", d.nodes(), 1);
        due("1: cursor", d.cursor(), 0);
        due("1: sort", d.told(0, 0), Desk.HOLE);
        for (int i = 0; i < 6; i++) {
            due("1: an empty shelf", d.fill(i), Desk.FINDING);
        }
        due("1: shelved", d.count(5), 0);
        due("1: births", d.count(1), 1);
        due("1: nothing worked", d.resume(300), Desk.STATE);
        due("1: no value", d.value(-1), Desk.NONE);
        due("1: no outcome", d.count(6), Desk.NONE);
        due("36: kinds told at first", d.count(0), 3);
        due("1: digest", d.digest(), digestOf(new int[][] {{0, 0, -9, -9, 0}}, 0, 1));
    }

    static long digestOf(int[][] nodes, int cursor, int births) {
        long h = 17;
        for (int[] node : nodes) {
            for (int v : node) {
                h = 31 * h + v;
            }
        }
        h = 31 * h + cursor;
        return 31 * h + births;
    }

    static void kinds() {
        HoleDesk d = new HoleDesk();
        due("2: from", d.kind(false, 1, 2), 3);
        due("2: pair", d.kind(true, 1, 2), 4);
        due("2: had already", d.kind(false, 1, 2), 3);
        due("2: of those", d.kind(true, 3, 4), 5);
        due("2: a below", d.kind(false, -1, 0), Desk.BAD);
        due("2: a none", d.kind(false, 6, 0), Desk.BAD);
        due("2: b none", d.kind(true, 0, 6), Desk.BAD);
        due("2: far", d.kind(true, MAX, MIN), Desk.BAD);
        due("3: what", d.kindOf(3, 0), 3);
        due("3: what pair", d.kindOf(4, 0), 4);
        due("3: parts", d.kindOf(5, 1), 3);
        due("3: parts", d.kindOf(5, 2), 4);
        due("3: size", d.kindOf(5, 3), 7);
        for (int k = 0; k < 3; k++) {
            due("3: base", d.kindOf(k, 0), k);
            due("3: base part", d.kindOf(k, 1), Desk.NONE);
            due("3: base part", d.kindOf(k, 2), Desk.NONE);
            due("3: base size", d.kindOf(k, 3), 1);
        }
        due("3: no such", d.kindOf(6, 0), Desk.BAD);
        due("3: no such", d.kindOf(-1, 0), Desk.BAD);
        due("3: no such what", d.kindOf(3, 4), Desk.BAD);
        due("3: no such what", d.kindOf(3, -1), Desk.BAD);
        due("4: unknown meets all", d.meet(0, 5), 1);
        due("4: unknown meets all", d.meet(5, 0), 1);
        due("4: whole, truth", d.meet(1, 2), 0);
        due("4: same", d.meet(2, 2), 1);
        due("4: from, pair", d.meet(3, 4), 0);
        due("4: whole, from", d.meet(1, 3), 0);
        due("2: parts unknown", d.kind(false, 0, 2), 6);
        due("4: part by part", d.meet(6, 3), 1);
        due("2: other second", d.kind(false, 1, 1), 7);
        due("4: second differs", d.meet(3, 7), 0);
        due("4: none", d.meet(0, 8), Desk.BAD);
        due("4: none", d.meet(-1, 0), Desk.BAD);
        sizes();
        fullKinds();
    }

    static void sizes() {
        HoleDesk d = new HoleDesk();
        int k = 1;
        for (int i = 0; i < 19; i++) {
            k = d.kind(true, 1, k);
        }
        due("3: 19 pairs", d.kindOf(k, 3), 39);
        due("2: a size of 41", d.kind(true, 1, k), Desk.BAD);
        int other = d.kind(false, 0, 0);
        int nine = d.kind(true, other, other);
        due("3: seven", d.kindOf(nine, 3), 7);
        int fifteen = d.kind(true, nine, nine);
        int sum = d.kind(true, fifteen, fifteen);
        due("3: 31", d.kindOf(sum, 3), 31);
        due("2: 39", d.kindOf(d.kind(false, sum, nine), 3), 39);
        HoleDesk e = new HoleDesk();
        int a = 1;
        for (int i = 0; i < 9; i++) {
            a = e.kind(true, 1, a);
        }
        due("3: 19", e.kindOf(a, 3), 19);
        due("3: 39 of two", e.kindOf(e.kind(true, a, a), 3), 39);
        int b = e.kind(false, 1, 1);
        b = e.kind(false, b, a);
        due("3: 23", e.kindOf(b, 3), 23);
        due("2: 43", e.kind(true, a, b), Desk.BAD);
    }

    static void fullKinds() {
        HoleDesk d = new HoleDesk();
        int many = 3;
        for (int a = 0; a < 3 && many < 40; a++) {
            for (int b = 0; b < 3 && many < 40; b++) {
                due("2: in order", d.kind(false, a, b), many++);
                due("2: in order", d.kind(true, a, b), many++);
            }
        }
        for (int b = 3; many < 40; b++) {
            due("2: in order", d.kind(true, 2, b), many++);
        }
        due("36: 40 kinds", d.count(0), 40);
        due("2: full", d.kind(false, 39, 39), Desk.FULL);
        due("2: full, but known", d.kind(false, 0, 0), 3);
        due("2: full, but bad", d.kind(false, 40, 0), Desk.BAD);
    }

    static void sheetToldByNumbers() {
        HoleDesk d = Desk.of("(let b (def c 1 (+ c 5)) (use b yes))");
        due("5: nodes", d.nodes(), 8);
        due("6: cursor on the top", d.cursor(), 1);
        int def = Desk.at(d, 0), sum = Desk.at(d, 0, 0), five = Desk.at(d, 0, 0, 1), yes = Desk.at(d, 1, 1);
        due("7: sort", d.told(def, 0), Desk.DEF);
        due("7: x", d.told(def, 1), 2);
        due("7: k", d.told(def, 2), 1);
        due("7: parent", d.told(def, 3), 1);
        due("7: which", d.told(five, 4), 1);
        due("7: parts", d.told(def, 5), 1);
        due("7: parts", d.told(1, 5), 2);
        due("7: number", d.told(five, 1), 5);
        due("7: truth", d.told(yes, 1), 1);
        due("7: none", d.told(sum, 1), Desk.NONE);
        due("7: no k", d.told(1, 2), Desk.NONE);
        due("7: no parent", d.told(1, 3), Desk.NONE);
        due("7: which of none", d.told(1, 4), Desk.NONE);
        due("7: reason", d.told(yes, 6), 6);
        due("7: no reason", d.told(five, 6), 0);
        due("7: a birth that went", d.told(0, 0), Desk.BAD);
        due("7: no birth", d.told(-1, 0), Desk.BAD);
        due("7: no birth", d.told(d.count(1), 0), Desk.BAD);
        due("7: what", d.told(1, 7), Desk.BAD);
        due("7: what", d.told(1, -1), Desk.BAD);
        due("8: part", d.part(sum, 1), five);
        due("8: beyond", d.part(sum, 2), Desk.FINDING);
        due("37: beyond", d.finding(), 2);
        due("8: beyond", d.part(five, 0), Desk.FINDING);
        due("8: beyond", d.part(sum, -1), Desk.FINDING);
        due("8: bad", d.part(0, 5), Desk.BAD);
        due("38: beyond", d.findings(2), 3);
        HoleDesk e = Desk.of("(pair (+ ? yes) (pair ? no))");
        due("10: holes from the left", e.hole(0, false), Desk.at(e, 0, 0));
        due("10: holes from the left", e.hole(1, false), Desk.at(e, 1, 0));
        due("10: no more", e.hole(2, false), Desk.NONE);
        due("10: below none", e.hole(-1, false), Desk.NONE);
        due("10: frame", e.hole(0, true), Desk.at(e, 0, 1));
        due("10: no more frames", e.hole(1, true), Desk.NONE);
        HoleDesk f = Desk.of("(use (+ 1 yes) z)");
        due("10: a node ahead of its parts", f.hole(0, true), Desk.at(f, 0));
        due("10: a node ahead of its parts", f.hole(1, true), Desk.at(f, 0, 1));
        due("10: then the next", f.hole(2, true), Desk.at(f, 1));
    }

    static void signs() {
        HoleDesk d = new HoleDesk();
        d.kind(false, 1, 2);
        d.kind(true, 3, 1);
        Desk.put(d, "(def a 4 (pair a (< (first a) ?)))");
        due("9: made", Desk.made(d), "fpfwtwppfwtwt");
        due("9: asked freely", Desk.asked(d), "");
        due("9: asked freely", d.sign(Desk.top(d), true, 0), Desk.NONE);
        due("9: asked", Desk.asked(d, 0, 1, 0), "w");
        due("9: frame: it made that", Desk.made(d, 0, 1, 0), "fwt");
        due("9: frame", Desk.reason(d, 0, 1, 0), 6);
        due("9: behind its end", d.sign(Desk.top(d), false, 13), Desk.NONE);
        due("9: far", d.sign(Desk.top(d), false, MAX), Desk.NONE);
        due("9: below", d.sign(Desk.top(d), false, -1), Desk.BAD);
        due("9: below", d.sign(Desk.top(d), true, MIN), Desk.BAD);
        due("9: no node", d.sign(0, true, 0), Desk.BAD);
        HoleDesk e = Desk.of("(let a (pair 1 ?) (told 0 (pair a (second a))))");
        due("9: asked unknown", Desk.asked(e, 1, 0), "?");
        due("9: asked unknown", Desk.asked(e, 1, 0, 0), "?");
        due("9: of let", Desk.made(e, 1, 0, 0), "pw?");
        due("9: told", Desk.made(e), "?");
    }

    static void judge(String program, String made, int... reasonsFromLeft) {
        HoleDesk d = judgeDesk();
        Desk.put(d, program);
        due(program + " made", Desk.made(d), made);
        StringBuilder got = new StringBuilder();
        for (int i = 0; d.hole(i, true) >= 0; i++) {
            got.append(d.told(d.hole(i, true), 6)).append(' ');
        }
        StringBuilder want = new StringBuilder();
        for (int reason : reasonsFromLeft) {
            want.append(reason).append(' ');
        }
        due(program + " reasons", got.toString(), want.toString());
    }

    /** KINDS: 3 whole to whole, 4 pair of whole, truth; 5 whole to (pair of whole, truth); 6 (3) to whole. */
    static HoleDesk judgeDesk() {
        HoleDesk d = new HoleDesk();
        d.kind(false, 1, 1);
        d.kind(true, 1, 2);
        d.kind(false, 1, 4);
        d.kind(false, 3, 1);
        return d;
    }

    static void reasons() {
        judge("?", "?");
        judge("(+ 1 ?)", "w");
        judge("(< 1 2)", "t");
        judge("(* yes (< 1 2))", "w", 6, 6);
        judge("a", "?", 1);
        judge("(+ a a)", "w", 1, 1);
        judge("(let a a a)", "?", 1);
        judge("(let a z (+ a 1))", "w", 1);
        judge("(let a yes (+ a 1))", "w", 6);
        judge("(let a (pick yes 1 no) (+ a 1))", "w", 5);
        judge("(def a 1 a)", "fww");
        judge("(def a 2 (+ a 1))", "ftw", 6);
        judge("(let a 1 (let a yes a))", "t");
        judge("(use (def a 1 (< a 2)) 3)", "t");
        judge("(use (def a 1 (< a 2)) no)", "t", 6);
        judge("(use ? no)", "?");
        judge("(use 3 no)", "?", 2);
        judge("(use 3 (+ no 1))", "?", 2, 6);
        judge("(use z (def a 1 yes))", "?", 1);
        judge("(use (pair 1 2) 1)", "?", 2);
        judge("(use (let a 1 a) 1)", "?", 2);
        judge("(use (pick yes 1 2) 1)", "?", 2);
        judge("(use (pick yes 1 no) 1)", "?", 5);
        judge("(first (pair 1 no))", "w");
        judge("(second (pair 1 no))", "t");
        judge("(first ?)", "?");
        judge("(second ?)", "?");
        judge("(first 3)", "?", 3);
        judge("(second (def a 1 a))", "?", 3);
        judge("(first z)", "?", 1);
        judge("(told 1 yes)", "w", 6);
        judge("(told 0 yes)", "?");
        judge("(told 2 yes)", "t");
        judge("(+ (told 2 yes) 1)", "w", 6);
        judge("(told 3 (def a 1 a))", "fww");
        judge("(told 3 (def a 0 a))", "fww");
        judge("(told 3 (def a 2 a))", "fww", 4, 6);
        judge("(told 3 (def a 2 1))", "fww", 4);
        judge("(told 3 (def a 1 yes))", "fww", 6);
        judge("(told 3 (def a 1 (< a 1)))", "fww", 6);
        judge("(told 1 (def a 1 yes))", "w", 6);
        judge("(told 0 (def a 1 yes))", "?");
        judge("(told 4 (def a 1 yes))", "pwt", 6);
        judge("(told 5 (def a 1 (pair a a)))", "fwpwt", 6);
        judge("(told 5 (def a 2 (pair 1 1)))", "fwpwt", 4, 6);
        judge("(told 6 (def f 3 (use f 1)))", "ffwww");
        judge("(told 4 (pair 1 yes))", "pwt");
        judge("(told 4 (pair yes 1))", "pwt", 6, 6);
        judge("(told 1 (pair yes 1))", "w", 6);
        judge("(told 3 (pair yes (+ 1 no)))", "fww", 6, 6);
        judge("(told 0 (pair yes (+ 1 no)))", "?", 6);
        judge("(told 1 (let a yes a))", "w", 6);
        judge("(told 1 (let a 1 (let b 2 yes)))", "w", 6);
        judge("(told 1 (pick 1 2 yes))", "w", 6, 6);
        judge("(told 0 (pick ? 2 yes))", "?");
        judge("(pick ? 2 yes)", "?", 5);
        judge("(pick yes ? (pair 1 ?))", "pw?");
        judge("(pick yes (pair ? yes) (pair 1 ?))", "pwt");
        judge("(pick yes (pair no yes) (pair 1 ?))", "?", 5);
        judge("(pick yes (def a 0 yes) (def a 1 ?))", "fwt");
        judge("(+ (pick no 1 2) (let a yes a))", "w", 6);
        judge("(+ (use (def a 1 yes) 1) 2)", "w", 6);
        judge("(use (def f 3 (use f 1)) (def a 1 a))", "w");
        judge("(use (def f 3 (use f 1)) (def a 2 a))", "w", 4, 6);
        judge("(use (def f 3 (use f 1)) 5)", "w", 6);
        judge("(let a (use (def b 1 yes) no) a)", "t", 6);
        judge("(let a (told 1 (def b 1 b)) a)", "w", 6);
        judge("(+ (+ 1 yes) 2)", "w", 6);
        judge("(pair z 1)", "p?w", 1);
        judge("(def a 1 z)", "fw?", 1);
        aKindTooLarge();
        whatIsAsked();
    }

    static void aKindTooLarge() {
        HoleDesk d = new HoleDesk();
        int k = 1;
        for (int i = 0; i < 9; i++) {
            k = d.kind(true, 1, k);
        }
        due("3: size", d.kindOf(k, 3), 19);
        Desk.put(d, "(def a " + k + " (pair a a))");
        due("9: a size of 39 within", Desk.made(d, 0).length(), 39);
        due("9: one above 40 is unknown", Desk.made(d), "?");
        HoleDesk e = new HoleDesk();
        int l = 1;
        for (int i = 0; i < 9; i++) {
            l = e.kind(true, 1, l);
        }
        Desk.put(e, "(+ (def a " + l + " (pair a a)) 1)");
        due("7: unknown meets what it is asked for", Desk.reason(e, 0), 0);
        HoleDesk f = new HoleDesk();
        int m = 1;
        for (int i = 0; i < 10; i++) {
            m = f.kind(true, 1, m);
        }
        Desk.put(f, "(told 1 (let b (told " + m + " ?) (pick ? (pair b 0) (pair 0 b))))");
        HoleDesk g = new HoleDesk();
        int n = 1;
        for (int i = 0; i < 10; i++) {
            n = g.kind(true, 1, n);
        }
        Desk.put(g, "(let b (told " + n + " ?) (pick ? (pair b ?) (pair ? b)))");
        due("9: together above 40 is unknown", Desk.made(g), "?");
        due("7: that is no frame", g.count(3), 0);
        due("9: its part", Desk.made(g, 1, 1).length(), 23);
    }

    static void whatIsAsked() {
        HoleDesk d = judgeDesk();
        Desk.put(d, "(let f (def a 5 a) (use f (def b 1 (pair b ?))))");
        due("9: let's first part freely", Desk.asked(d, 0), "");
        due("9: use's first part freely", Desk.asked(d, 1, 0), "");
        due("9: use's second part", Desk.asked(d, 1, 1), "fwpwt");
        due("9: the body", Desk.asked(d, 1, 1, 0), "pwt");
        due("9: its parts", Desk.asked(d, 1, 1, 0, 1), "t");
        HoleDesk e = Desk.of("(use 1 (pick ? (def a 1 ?) (pair ? ?)))");
        due("9: asked for unknown", Desk.asked(e, 1), "?");
        due("9: a truth", Desk.asked(e, 1, 0), "t");
        due("9: unknown to the parts", Desk.asked(e, 1, 1), "?");
        due("9: unknown to the body", Desk.asked(e, 1, 1, 0), "?");
        due("9: unknown to both", Desk.asked(e, 1, 2, 1), "?");
        HoleDesk f = Desk.of("(pick ? ? ?)");
        due("9: freely", Desk.asked(f, 1), "");
        due("9: freely", Desk.asked(f, 2), "");
        HoleDesk g = Desk.of("(told 1 (pair ? (let a ? ?)))");
        due("9: freely, for another kind", Desk.asked(g, 0, 0), "");
        due("9: freely, for another kind", Desk.asked(g, 0, 1, 1), "");
        HoleDesk h = Desk.of("(told 1 (let a ? ?))");
        due("9: as let itself", Desk.asked(h, 0, 1), "w");
        HoleDesk i = Desk.of("(told 1 (def a 2 ?))");
        due("9: the body freely", Desk.asked(i, 0, 0), "");
        due("9: half's part freely", Desk.asked(Desk.of("(told 1 (first ?))"), 0, 0), "");
    }

    static void going() {
        HoleDesk d = Desk.of("(pick ? (+ 1 ?) 3)");
        due("11: no up", d.go(0), Desk.STATE);
        due("11: no next of the top", d.go(2), Desk.STATE);
        due("11: first", d.go(1), Desk.at(d, 0));
        due("11: none ahead", d.go(3), Desk.STATE);
        due("11: next", d.go(2), Desk.at(d, 1));
        due("11: next", d.go(2), Desk.at(d, 2));
        due("11: no next", d.go(2), Desk.STATE);
        due("11: no first part", d.go(1), Desk.STATE);
        due("11: no hole behind", d.go(4), Desk.STATE);
        due("11: ahead", d.go(3), Desk.at(d, 1));
        due("11: hole behind it, in its parts", d.go(4), Desk.at(d, 1, 1));
        due("11: none behind that", d.go(4), Desk.STATE);
        due("11: up", d.go(0), Desk.at(d, 1));
        due("11: top", d.go(5), Desk.top(d));
        due("11: way", d.go(6), Desk.BAD);
        due("11: way", d.go(-1), Desk.BAD);
        due("6: it stays", d.cursor(), Desk.top(d));
        due("11: a hole ahead of the cursor is none", Desk.seek(d, 0).go(4), Desk.at(d, 1, 1));
        due("12: seek", d.seek(Desk.at(d, 2)), 1);
        due("6: there", d.cursor(), Desk.at(d, 2));
        due("12: gone", d.seek(0), Desk.BAD);
        due("12: none", d.seek(-9), Desk.BAD);
        due("12: none", d.seek(MAX), Desk.BAD);
        due("6: still there", d.cursor(), Desk.at(d, 2));
    }

    static void putting() {
        HoleDesk d = new HoleDesk();
        due("13: its own birth first", d.put(11, 7, 99), 1);
        due("13: then holes", d.part(1, 2), 4);
        due("13: v not looked at", d.told(1, 1), Desk.NONE);
        due("13: k not looked at", d.told(1, 2), Desk.NONE);
        due("6: on it", d.cursor(), 1);
        due("13: around it", d.put(11, -1, -1), 5);
        due("8: what was there is first", d.part(5, 0), 1);
        due("13: the others", d.part(5, 1), 6);
        due("13: the others", d.part(5, 2), 7);
        due("7: its parent", d.told(1, 3), 5);
        due("13: no parts, no hole", d.put(1, 0, 0), Desk.STATE);
        due("13: no parts, no hole", d.put(3, 25, 0), Desk.STATE);
        due("13: bad ahead of state", d.put(2, 2, 0), Desk.BAD);
        due("13: sort", d.put(16, 0, 0), Desk.BAD);
        due("13: sort", d.put(-1, 0, 0), Desk.BAD);
        due("13: a hole", d.put(0, 0, 0), Desk.STATE);
        due("13: a hole on a hole", Desk.seek(d, 1).put(0, 0, 0), Desk.STATE);
        due("13: x", d.put(3, 26, 0), Desk.BAD);
        due("13: x", d.put(3, -1, 0), Desk.BAD);
        due("13: x", d.put(8, 26, 0), Desk.BAD);
        due("13: x", d.put(10, -1, 0), Desk.BAD);
        due("13: truth", d.put(2, -1, 0), Desk.BAD);
        due("13: k", d.put(8, 0, 3), Desk.BAD);
        due("13: k", d.put(15, 0, -1), Desk.BAD);
        due("13: k", d.put(15, 99, 2), 8);
        due("7: k", d.told(8, 2), 2);
        due("7: no x", d.told(8, 1), Desk.NONE);
        due("13: n", Desk.seek(d, 1, 0).put(1, MIN, 77), 10);
        due("7: n", d.told(10, 1), MIN);
        due("13: x of a let", Desk.seek(d, 2).put(10, 25, 9), 11);
        due("7: x", d.told(11, 1), 25);
        due("7: no k", d.told(11, 2), Desk.NONE);
        HoleDesk e = Desk.of("3");
        due("13: around a number", e.put(7, 0, 0), 2);
        due("8: first part", e.part(2, 0), 1);
        due("13: one part only", Desk.seek(e, 0).put(13, 0, 0), 4);
        due("8: in its place", e.part(2, 0), 4);
        due("8: below", e.part(4, 0), 1);
        due("36: births", e.count(1), 5);
        fullNodes();
        fullBirths();
    }

    static void fullNodes() {
        HoleDesk d = new HoleDesk();
        for (int i = 0; i < 59; i++) {
            due("13: one more", d.put(13, 0, 0) >= 0 ? 1 : 0, 1);
        }
        due("5: 60", d.nodes(), 60);
        due("13: full", d.put(13, 0, 0), Desk.FULL);
        due("13: full on the hole", go4(d).put(13, 0, 0), Desk.FULL);
        due("13: no more nodes", d.put(1, 4, 0) >= 0 ? 1 : 0, 1);
        due("5: 60", d.nodes(), 60);
        due("13: state ahead of full", d.put(1, 0, 0), Desk.STATE);
        HoleDesk e = new HoleDesk();
        for (int i = 0; i < 57; i++) {
            e.put(13, 0, 0);
        }
        due("5: 58", e.nodes(), 58);
        due("13: three parts", e.put(11, 0, 0), Desk.FULL);
        due("13: two parts", e.put(12, 0, 0) >= 0 ? 1 : 0, 1);
        due("5: 60", e.nodes(), 60);
    }

    static HoleDesk go4(HoleDesk d) {
        d.go(4);
        return d;
    }

    /** A desk with as many births as told, its cursor on a hole that is all of the sheet. */
    static HoleDesk withBirths(int births) {
        HoleDesk d = new HoleDesk();
        for (int i = 0; i < 58; i++) {
            d.put(13, 0, 0);
        }
        d.go(5);
        d.shelve(0);
        d.take();
        while (d.count(1) + 59 <= births) {
            d.fill(0);
            d.undo();
        }
        while (d.count(1) < births) {
            d.put(1, 0, 0);
            d.undo();
        }
        return d;
    }

    static void fullBirths() {
        HoleDesk d = withBirths(2997);
        due("36: births", d.count(1), 2997);
        due("13: births", d.put(11, 0, 0), Desk.FULL);
        due("13: births", d.put(12, 0, 0), 2997);
        due("36: births", d.count(1), 3000);
        due("13: births", d.put(13, 0, 0), Desk.FULL);
        due("14: births", d.take(), Desk.FULL);
        due("18: births", Desk.seek(d, 0).move(2999), Desk.FULL);
        due("18: state ahead of births", d.move(2998), Desk.STATE);
        due("20: births", d.fill(0), Desk.FULL);
        due("20: nothing", d.fill(1), Desk.FINDING);
        due("15: needs none", Desk.seek(d).unwrap(1), 2999);
        due("21: undone", d.undo(), d.count(2));
        HoleDesk e = withBirths(2999);
        due("13: the last one", e.put(1, 5, 0), 2999);
        due("16: needs none", e.write(6), 5);
        due("14: none left", e.take(), Desk.FULL);
        due("13: around it", e.put(13, 0, 0), Desk.FULL);
        HoleDesk f = withBirths(2940);
        f.shelve(1);
        due("20: 59 births", f.fill(0), 2940);
        due("36: births", f.count(1), 2999);
        due("14: the last one", f.take(), 2999);
        due("20: none left", f.fill(1), Desk.FULL);
    }

    static void taking() {
        HoleDesk d = Desk.of("(+ (* 1 2) 3)");
        int births = d.count(1);
        due("14: take", Desk.seek(d, 0).take(), births);
        due("14: with all its parts", Desk.sheet(d), "(+ ? 3)");
        due("6: on it", d.cursor(), births);
        due("14: a hole", d.take(), Desk.STATE);
        due("14: all", Desk.seek(d).take(), births + 1);
        due("5: one", d.nodes(), 1);
        HoleDesk e = Desk.of("(pick 1 (+ 2 3) 4)");
        int sum = Desk.at(e, 1);
        due("15: beyond", e.unwrap(3), Desk.FINDING);
        due("15: beyond", e.unwrap(-1), Desk.FINDING);
        due("37: beyond", e.finding(), 2);
        due("15: part", e.unwrap(1), sum);
        due("15: all else goes", Desk.sheet(e), "(+ 2 3)");
        due("6: on it", e.cursor(), sum);
        due("7: the top", e.told(sum, 3), Desk.NONE);
        due("15: no parts", Desk.seek(e, 0).unwrap(0), Desk.STATE);
        due("15: no parts, ahead of beyond", e.unwrap(7), Desk.STATE);
        due("38: beyond", e.findings(2), 2);
        HoleDesk f = Desk.of("(pair 1 (first (pair 2 3)))");
        due("15: within", Desk.seek(f, 1).unwrap(0) >= 0 ? 1 : 0, 1);
        due("15: within", Desk.sheet(f), "(pair 1 (pair 2 3))");
    }

    static void writing() {
        HoleDesk d = Desk.of("(pair (pair 5 yes) (def a 0 a))");
        due("16: what it was", Desk.seek(d, 0, 0).write(-7), 5);
        due("16: what it was", d.write(MAX), -7);
        due("7: n", d.told(d.cursor(), 1), MAX);
        due("16: truth", Desk.seek(d, 0, 1).write(0), 1);
        due("16: truth", d.write(2), Desk.BAD);
        due("16: truth", d.write(-1), Desk.BAD);
        due("16: name", Desk.seek(d, 1, 0).write(25), 0);
        due("7: not bound now", d.told(d.cursor(), 6), 1);
        due("16: x", d.write(26), Desk.BAD);
        due("16: x", d.write(-1), Desk.BAD);
        due("16: def", Desk.seek(d, 1).write(3), Desk.STATE);
        due("16: state ahead of bad", d.write(99), Desk.STATE);
        due("16: pair", Desk.seek(d).write(1), Desk.STATE);
        due("16: hole", new HoleDesk().write(1), Desk.STATE);
        due("16: sheet", Desk.sheet(d), "(pair (pair 2147483647 no) (def a 0 z))");
    }

    static void rename(String program, int to, int answer, String after, int... path) {
        HoleDesk d = Desk.seek(Desk.of(program), path);
        int acts = d.count(2);
        due("17: rename in " + program, d.rename(to), answer);
        due("17: after", Desk.sheet(d), after);
        due("17: an act", d.count(2), answer >= 0 ? Math.min(20, acts + 1) : acts);
    }

    static void renaming() {
        rename("(let a 1 (+ a a))", 1, 2, "(let b 1 (+ b b))");
        rename("(let a a (+ a a))", 1, 2, "(let b a (+ b b))");
        rename("(def a 0 (pair a (def a 0 a)))", 1, 1, "(def b 0 (pair b (def a 0 a)))");
        rename("(def a 0 (pair a (def a 0 a)))", 1, 1, "(def a 0 (pair a (def b 0 b)))", 0, 1);
        rename("(def a 0 (pair a (let a a a)))", 1, 2, "(def b 0 (pair b (let a b a)))");
        rename("(def a 0 7)", 25, 0, "(def z 0 7)");
        rename("(def a 0 a)", 0, 1, "(def a 0 a)");
        rename("(def a 0 b)", 1, Desk.CAUGHT, "(def a 0 b)");
        rename("(def a 0 (def b 0 a))", 1, Desk.CAUGHT, "(def a 0 (def b 0 a))");
        rename("(def a 0 (def b 0 b))", 1, 0, "(def b 0 (def b 0 b))");
        rename("(def a 0 (let b a b))", 1, 1, "(def b 0 (let b b b))");
        rename("(def a 0 (let b 1 a))", 1, Desk.CAUGHT, "(def a 0 (let b 1 a))");
        rename("(def b 0 (def a 0 b))", 1, Desk.CAUGHT, "(def b 0 (def a 0 b))", 0);
        rename("(def b 0 (def a 0 a))", 1, 1, "(def b 0 (def b 0 b))", 0);
        rename("(let a b a)", 1, 1, "(let b b b)");
        rename("(let a b (pair a b))", 1, Desk.CAUGHT, "(let a b (pair a b))");
        rename("(let a 1 a)", 26, Desk.BAD, "(let a 1 a)");
        rename("(let a 1 a)", -1, Desk.BAD, "(let a 1 a)");
        rename("(let a 1 a)", 1, Desk.STATE, "(let a 1 a)", 1);
        rename("(let a 1 a)", 26, Desk.BAD, "(let a 1 a)", 0);
        rename("(pair 1 a)", 1, Desk.STATE, "(pair 1 a)");
    }

    static void move(String program, int[] from, int[] to, int answer, String after) {
        HoleDesk d = Desk.of(program);
        int target = Desk.at(d, to);
        int moved = Desk.at(d, from);
        int births = d.count(1);
        Desk.seek(d, from);
        int got = d.move(target);
        due("18: move in " + program, got >= 0 ? 0 : got, answer);
        due("18: after", Desk.sheet(d), after);
        due("6: the cursor with it", d.cursor(), moved);
        due("36: births", d.count(1), births + (answer == 0 ? 1 : 0));
        if (answer == 0) {
            due("18: that hole's birth", got, births);
            due("18: the hole there went", d.told(target, 0), Desk.BAD);
        }
    }

    static int[] path(int... path) {
        return path;
    }

    static void moving() {
        move("(+ (* 1 2) ?)", path(0), path(1), 0, "(+ ? (* 1 2))");
        move("(+ ? (* 1 2))", path(1, 0), path(0), 0, "(+ 1 (* ? 2))");
        move("(+ ? ?)", path(1), path(0), 0, "(+ ? ?)");
        move("(+ ? 1)", path(0), path(0), Desk.STATE, "(+ ? 1)");
        move("(+ ? 1)", path(), path(0), Desk.STATE, "(+ ? 1)");
        move("(+ 2 1)", path(0), path(1), Desk.STATE, "(+ 2 1)");
        move("(pair ? (def a 0 a))", path(1, 0), path(0), Desk.CAUGHT, "(pair ? (def a 0 a))");
        move("(pair ? (def a 0 a))", path(1), path(0), 0, "(pair (def a 0 a) ?)");
        move("(pair b (def a 0 ?))", path(0), path(1, 0), 0, "(pair ? (def a 0 b))");
        move("(pair a (def a 0 ?))", path(0), path(1, 0), Desk.CAUGHT, "(pair a (def a 0 ?))");
        move("(let a 1 (let a 2 (pair a ?)))", path(1, 1, 0), path(1, 1, 1), 0,
            "(let a 1 (let a 2 (pair ? a)))");
        move("(let a 1 (pair ? (let a 2 a)))", path(1, 1, 1), path(1, 0), Desk.CAUGHT,
            "(let a 1 (pair ? (let a 2 a)))");
        move("(let a 1 (pair ? (let b 2 a)))", path(1, 1, 1), path(1, 0), 0,
            "(let a 1 (pair a (let b 2 ?)))");
        move("(let a ? (pair a 1))", path(1, 0), path(0), Desk.CAUGHT, "(let a ? (pair a 1))");
        move("(let a ? (pair b 1))", path(1, 0), path(0), 0, "(let a b (pair ? 1))");
        move("(let a b ?)", path(0), path(1), 0, "(let a ? b)");
        move("(let a a ?)", path(0), path(1), Desk.CAUGHT, "(let a a ?)");
        HoleDesk d = Desk.of("(+ 1 ?)");
        due("18: no such node", d.move(0), Desk.BAD);
        due("18: no such node", d.move(-1), Desk.BAD);
        due("18: no such node", d.move(MAX), Desk.BAD);
    }

    static void shelving() {
        HoleDesk d = judgeDesk();
        Desk.put(d, "(pair (let a 5 (told 3 (def b 1 (+ a b)))) ?)");
        due("19: place", d.shelve(-1), Desk.BAD);
        due("19: place", d.shelve(6), Desk.BAD);
        due("19: how many", Desk.seek(d, 0).shelve(5), 7);
        due("36: shelved", d.count(5), 7);
        due("19: a second one", Desk.seek(d, 0, 0).shelve(0), 1);
        due("36: shelved", d.count(5), 8);
        due("20: no hole", d.fill(0), Desk.STATE);
        due("20: no hole ahead of nothing", d.fill(1), Desk.STATE);
        due("20: place ahead of state", d.fill(6), Desk.BAD);
        due("20: place", Desk.seek(d, 1).fill(-1), Desk.BAD);
        due("20: nothing", d.fill(1), Desk.FINDING);
        due("37: nothing", d.finding(), 1);
        int births = d.count(1);
        due("20: the top's birth", d.fill(5), births);
        due("6: on it", d.cursor(), births);
        due("20: as it was", Desk.sheet(d), "(pair (let a 5 (told 3 (def b 1 (+ a b)))) "
            + "(let a 5 (told 3 (def b 1 (+ a b)))))");
        due("20: a node ahead of its parts", Desk.at(d, 1, 0), births + 1);
        due("20: a node ahead of its parts", Desk.at(d, 1, 1), births + 2);
        due("20: a node ahead of its parts", Desk.at(d, 1, 1, 0, 0, 1), births + 6);
        due("36: births", d.count(1), births + 7);
        due("19: what it was stays", d.write(0), Desk.STATE);
        due("16: write", Desk.seek(d, 0, 0).write(9), 5);
        due("14: take", Desk.seek(d, 1).take() >= 0 ? 1 : 0, 1);
        d.fill(5);
        due("19: a copy", d.told(Desk.at(d, 1, 0), 1), 5);
        due("19: instead", Desk.seek(d, 0, 0).shelve(5), 1);
        due("36: shelved", d.count(5), 2);
        due("20: a hole on the shelf", new HoleDesk().shelve(2), 1);
        HoleDesk e = new HoleDesk();
        for (int i = 0; i < 29; i++) {
            e.put(13, 0, 0);
        }
        due("19: 30 nodes", Desk.seek(e).shelve(0), 30);
        go4(e);
        due("20: 59 nodes", e.fill(0) >= 0 ? 1 : 0, 1);
        due("5: 59", e.nodes(), 59);
        due("20: 61 would be", go4(e).fill(0), Desk.FULL);
        due("20: full ahead of nothing", e.fill(1), Desk.FINDING);
        due("19: two", Desk.seek(e, new int[57]).shelve(1), 2);
        due("20: 60 nodes", go4(e).fill(1) >= 0 ? 1 : 0, 1);
        due("5: 60", e.nodes(), 60);
        due("19: 60", Desk.seek(e).shelve(2), 60);
        e.take();
        due("20: 60", e.fill(2) >= 0 ? 1 : 0, 1);
        due("5: 60", e.nodes(), 60);
    }

    static void undoing() {
        HoleDesk d = new HoleDesk();
        due("21: nothing", d.undo(), Desk.STATE);
        Desk.put(d, "(let a 1 (+ a ?))");
        due("36: acts", d.count(2), 4);
        Desk.seek(d, 0);
        d.write(7);
        Desk.seek(d);
        d.rename(3);
        due("21: sheet", Desk.sheet(d), "(let d 7 (+ d ?))");
        due("21: left", d.undo(), 5);
        due("21: rename undone", Desk.sheet(d), "(let a 7 (+ a ?))");
        due("21: left", d.undo(), 4);
        due("21: write undone", Desk.sheet(d), "(let a 1 (+ a ?))");
        due("21: the cursor", d.cursor(), Desk.at(d, 0));
        Desk.seek(d, 0);
        d.move(Desk.at(d, 1, 1));
        due("21: moved", Desk.sheet(d), "(let a ? (+ a 1))");
        int births = d.count(1);
        due("21: left", d.undo(), 4);
        due("21: move undone", Desk.sheet(d), "(let a 1 (+ a ?))");
        due("21: births go on", d.count(1), births);
        Desk.seek(d).unwrap(1);
        due("21: judged anew", Desk.reason(d, 0), 1);
        d.seek(Desk.at(d, 1));
        d.undo();
        due("21: unwrap undone", Desk.sheet(d), "(let a 1 (+ a ?))");
        due("21: judged anew", d.count(3), 0);
        due("21: cursor as ahead of it", d.cursor(), Desk.top(d));
        Desk.seek(d, 1).shelve(0);
        Desk.seek(d, 1, 1).fill(0);
        due("21: filled", Desk.sheet(d), "(let a 1 (+ a (+ a ?)))");
        d.undo();
        due("21: fill undone", Desk.sheet(d), "(let a 1 (+ a ?))");
        Desk.seek(d, 1).take();
        d.undo();
        due("21: take undone", Desk.sheet(d), "(let a 1 (+ a ?))");
        due("21: the shelf stays", d.count(5), 3);
        Desk.seek(d, 0);
        for (int i = 0; i < 30; i++) {
            d.write(i);
        }
        due("36: 20 are kept", d.count(2), 20);
        due("21: refused acts are none", d.put(1, 0, 0), Desk.STATE);
        for (int i = 19; i >= 0; i--) {
            due("21: how many are left", d.undo(), i);
        }
        due("21: as ahead of the 20th", d.told(Desk.at(d, 0), 1), 9);
        due("21: no more", d.undo(), Desk.STATE);
        d.write(1);
        due("36: one", d.count(2), 1);
        due("21: that one", d.undo(), 0);
        due("21: that one", d.told(Desk.at(d, 0), 1), 9);
        HoleDesk e = Desk.of("3");
        e.work(300);
        e.undo();
        due("21: steps stay", e.steps(), 1);
        due("21: the value stays", Desk.value(e), "3");
        due("21: the cursor", e.cursor(), 0);
        due("21: outcome stays", e.count(6), 0);
    }

    static String offersOf(HoleDesk d) {
        StringBuilder b = new StringBuilder();
        for (int i = 0; d.offer(i, 0) != Desk.NONE; i++) {
            b.append(d.offer(i, 0));
            if (d.offer(i, 1) != Desk.NONE) {
                b.append((char) ('a' + d.offer(i, 1)));
            }
            b.append(' ');
        }
        due("22: how many", d.offers(), b.toString().isEmpty() ? 0 : b.toString().trim().split(" ").length);
        return b.toString().trim();
    }

    static void offer(String program, String want, int... path) {
        HoleDesk d = judgeDesk();
        Desk.put(d, program);
        Desk.seek(d, path);
        long before = d.digest();
        due("22, 23: offers in " + program, offersOf(d), want);
        due("22: nothing changed", d.digest(), before);
    }

    static void offering() {
        String all = "1 2 4 5 6 7 8 9 10 11 12 13 14 15";
        offer("?", all);
        offer("(+ ? 1)", "1 4 5 6 9 10 11 13 14 15", 0);
        offer("(pick ? 1 2)", "2 7 9 10 11 13 14 15", 0);
        offer("(use ? 1)", "8 9 10 11 13 14 15", 0);
        offer("(use 1 ?)", all, 1);
        offer("(first ?)", "9 10 11 12 13 14 15", 0);
        offer("(told 3 ?)", "8 9 10 11 13 14 15", 0);
        offer("(told 4 ?)", "9 10 11 12 13 14 15", 0);
        offer("(told 0 ?)", all, 0);
        offer("(def c 1 (let a yes (def b 3 (+ ? 1))))", "3c 1 4 5 6 9 10 11 13 14 15", 0, 1, 0, 0);
        offer("(def c 1 (let a yes (def b 3 (use ? 1))))", "3b 8 9 10 11 13 14 15", 0, 1, 0, 0);
        offer("(def c 1 (let a yes (def b 3 ?)))", "3a 3b 3c " + all, 0, 1, 0);
        offer("(def a 1 (let a yes (pick ? 1 1)))", "3a 2 7 9 10 11 13 14 15", 0, 1, 0);
        offer("(def a 1 (def a 2 (+ ? 1)))", "1 4 5 6 9 10 11 13 14 15", 0, 0, 0);
        offer("(let a ? a)", all, 0);
        offer("(let a z (+ ? 1))", "3a 1 4 5 6 9 10 11 13 14 15", 1, 0);
        offer("(pick yes ? 3)", all, 1);
        HoleDesk d = Desk.of("(+ ? 1)");
        due("22: no hole", d.offers(), Desk.STATE);
        due("23: no hole", d.offer(0, 0), Desk.STATE);
        due("23: what, ahead of state", d.offer(0, 2), Desk.BAD);
        Desk.seek(d, 0);
        due("23: what", d.offer(0, 2), Desk.BAD);
        due("23: what", d.offer(0, -1), Desk.BAD);
        due("23: sort", d.offer(0, 0), 1);
        due("23: no x", d.offer(0, 1), Desk.NONE);
        due("23: the last", d.offer(9, 0), 15);
        due("23: none such", d.offer(10, 0), Desk.NONE);
        due("23: none such", d.offer(-1, 1), Desk.NONE);
    }

    /** What is offered is just what put() gives no frame. */
    static void offersAgreeWithPut() {
        String[] programs = {"(let a (def b 1 b) (use a ?))", "(let a (pair 1 ?) (first ?))", "(told 5 ?)",
            "(def a 5 (use ? ?))", "(told 6 (def b 3 ?))", "(let c yes (def b 0 (told 4 (pair ? ?))))",
            "(def a 4 (second ?))", "(pick ? ? ?)", "(told 1 (pick ? (let a yes ?) ?))"};
        for (String program : programs) {
            HoleDesk d = judgeDesk();
            Desk.put(d, program);
            for (int h = 0; d.hole(h, false) >= 0; h++) {
                int hole = d.hole(h, false);
                d.seek(hole);
                StringBuilder want = new StringBuilder();
                for (int i = -26; i <= 15; i++) {
                    int sort = i < 0 ? Desk.NAME : i;
                    if (i == 0 || i == Desk.NAME) {
                        continue;
                    }
                    int birth = d.put(sort, i < 0 ? i + 26 : 0, 0);
                    int reason = d.told(birth, 6);
                    d.undo();
                    if (reason == 0) {
                        want.append(sort).append(i < 0 ? Character.toString('a' + i + 26) : "").append(' ');
                    }
                }
                due("22: as put in " + program, offersOf(d), want.toString().trim());
            }
        }
    }

    static HoleDesk work(String program, int outcome, String value) {
        HoleDesk d = judgeDesk();
        Desk.put(d, program);
        due("24: " + program, d.work(300), outcome);
        due("28: " + program, template(d, Desk.value(d)), value);
        due("36: outcome", d.count(6), outcome);
        return d;
    }

    static void stopped(String program, int outcome, int steps, int... path) {
        HoleDesk d = work(program, outcome, "none");
        due("27: where in " + program, d.where(), Desk.at(d, path));
        due("26: steps of " + program, d.steps(), steps);
        due("29: none", d.left(0), Desk.NONE);
        due("25: it came to that", d.resume(300), Desk.STATE);
    }

    static void working() {
        work("5", 0, "5");
        work("-2147483648", 0, "-2147483648");
        work("yes", 0, "yes");
        work("no", 0, "no");
        work("(+ 2 3)", 0, "5");
        work("(* 2 -3)", 0, "-6");
        work("(/ 7 -2)", 0, "-3");
        work("(/ -2147483648 -1)", 0, "-2147483648");
        work("(+ 2147483647 1)", 0, "-2147483648");
        work("(* 65536 65536)", 0, "0");
        work("(< 2 3)", 0, "yes");
        work("(< 3 3)", 0, "no");
        work("(pair 1 (pair yes no))", 0, "[1 [yes no]]");
        work("(first (pair 1 2))", 0, "1");
        work("(second (pair 1 2))", 0, "2");
        work("(told 1 4)", 0, "4");
        work("(pick yes 1 2)", 0, "1");
        work("(pick no 1 2)", 0, "2");
        work("(pick (< 2 1) 1 2)", 0, "2");
        work("(let a 2 (let b 3 (* a b)))", 0, "6");
        work("(let a 2 (let a 3 a))", 0, "3");
        work("(let a 2 (+ (let a 3 a) a))", 0, "5");
        work("(use (def a 1 (+ a 1)) 4)", 0, "5");
        work("(let y 10 (let f (def x 1 (+ x y)) (let y 20 (use f 1))))", 0, "11");
        work("(use (use (def a 1 (def b 1 (+ a (* b 10)))) 1) 2)", 0, "21");
        work("(def a 1 ?)", 0, "d");
        work("(pair (def a 1 ?) ?)", 1, "[d ?]");
        work("?", 1, "?");
        work("(+ ? 1)", 1, "(+ ? 1)");
        work("(+ yes ?)", 1, "(+ {yes} ?)");
        work("(* 1 (/ ? 0))", 1, "(* 1 (/ ? 0))");
        work("(< ? ?)", 1, "(< ? ?)");
        work("(use ? 1)", 1, "(use ? 1)");
        work("(first ?)", 1, "(first ?)");
        work("(second (first ?))", 1, "(second (first ?))");
        work("(pick ? 1 (/ 1 0))", 1, "(pick ? #)");
        work("(pick (< ? 1) 1 2)", 1, "(pick (< ? 1) #)");
        work("(told 1 ?)", 1, "?");
        work("(let a ? (+ a a))", 1, "(+ ? ?)");
        work("(pair 1 ?)", 1, "[1 ?]");
        work("(first (pair 1 ?))", 0, "1");
        work("z", 1, "!z");
        work("(+ z 1)", 1, "(+ !z 1)");
        work("(+ 1 yes)", 1, "(+ 1 {yes})");
        work("(+ 1 (told 2 yes))", 1, "(+ 1 {yes})");
        work("(use 3 1)", 1, "(use {3} 1)");
        work("(first 3)", 1, "(first {3})");
        work("(pick yes 1 no)", 1, "{1}");
        work("(let a yes (+ a 1))", 1, "(+ {yes} 1)");
        work("(let a (pick no 1 no) (pair a a))", 1, "[{no} {no}]");
        work("(+ (let a ? (< a 1)) 1)", 1, "(+ {(< ? 1)} 1)");
        work("(told 3 (def a 2 1))", 1, "{d}");
        work("(let a (+ ? 1) 4)", 0, "4");
        stopped("(/ 1 0)", 2, 3);
        stopped("(+ 1 (/ 2 (+ 3 -3)))", 2, 7, 1);
        stopped("(let a (told 0 yes) (+ a 1))", 3, 6, 1);
        stopped("(+ (told 0 yes) 2)", 3, 4);
        stopped("(use (told 0 3) ?)", 3, 4);
        stopped("(use (told 0 3) 1)", 3, 4);
        stopped("(pick (told 0 3) 1 2)", 3, 3);
        stopped("(first (told 0 3))", 3, 3);
        stopped("(second (told 0 (def a 0 a)))", 3, 3);
        stopped("(+ 1 (told 0 (pair 1 ?)))", 3, 6);
        stopped("(let f (def a 0 (+ a 1)) (use f yes))", 3, 8, 0, 0);
        HoleDesk d = work("(+ 1 2)", 0, "3");
        due("26: steps", d.steps(), 3);
        due("27: nowhere", d.where(), Desk.NONE);
        due("24: n", d.work(-1), Desk.BAD);
        due("24: n", d.work(301), Desk.BAD);
        due("24: refused, so it stays", Desk.value(d), "3");
        due("26: before", new HoleDesk().steps(), 0);
        due("27: before", new HoleDesk().where(), Desk.NONE);
    }

    static void spending() {
        HoleDesk d = Desk.of("(+ 1 (* 2 3))");
        int[] dueAt = {Desk.at(d), Desk.at(d, 0), Desk.at(d, 1), Desk.at(d, 1, 0), Desk.at(d, 1, 1)};
        for (int n = 0; n < 5; n++) {
            due("24: spent", d.work(n), 4);
            due("27: what was due", d.where(), dueAt[n]);
            due("26: steps", d.steps(), n);
            due("28: no value", d.value(-1), Desk.NONE);
        }
        due("24: enough", d.work(5), 0);
        due("27: nowhere", d.where(), Desk.NONE);
        HoleDesk e = new HoleDesk();
        for (int i = 0; i < 59; i++) {
            e.put(15, 0, 0);
        }
        due("24: the 60th within", e.work(300), 1);
        due("26: 60 steps", e.steps(), 60);
        HoleDesk f = new HoleDesk();
        for (int i = 0; i < 55; i++) {
            f.put(15, 0, 0);
        }
        f.put(12, 0, 0);
        int pair = f.cursor();
        due("13: a number", Desk.seek(f, 1).put(1, 1, 0) >= 0 ? 1 : 0, 1);
        due("24: still", f.work(300), 1);
        due("5: nodes", f.nodes(), 58);
        due("25: one step", f.resume(1), 4);
        due("27: a value: none", f.where(), Desk.NONE);
        due("12: pair", f.seek(pair), 1);
        HoleDesk g = Desk.of("(let f (def x 0 (told 0 (use x x))) (use f f))");
        due("24: without end", g.work(300), 4);
        // LET 1, USE 2, TOLD 3, USE 4, .. USE 60: its parts are the 61st; f and f, x and x beside
        due("26: 60 within one another, DEF, names", g.steps(), 60 + 1 + 2 * 29);
        due("27: x in the USE", g.where(), Desk.at(g, 0, 0, 0, 0));
        due("24: steps ahead of that", g.work(100), 4);
        due("26: 100", g.steps(), 100);
        deepValues();
        rowsUsedAgain();
    }

    /** What a judging or a working makes must not use up the room for the next one. */
    static void rowsUsedAgain() {
        HoleDesk d = rowsDesk();
        String made = Desk.made(d);
        due("9: made", made, "ppfwwpwpww?");
        Desk.seek(d, 0, 0, 0);
        for (int i = 0; i < 400; i++) {
            d.write(i);
        }
        due("9: judged 400 times", Desk.made(d), made);
        d = rowsDesk();
        Desk.seek(d, 1, 1);
        for (int i = 0; i < 400; i++) {
            due("22: offered 400 times", d.offers(), 15);
        }
        due("9: it stays", Desk.made(d), made);
        d = rowsDesk();
        d.work(300);
        String value = Desk.value(d);
        for (int i = 0; i < 300; i++) {
            d.resume(300);
        }
        due("28: gone on with 300 times", Desk.value(d), value);
        d = rowsDesk();
        for (int i = 0; i < 350; i++) {
            d.work(300);
        }
        due("28: worked 350 times", Desk.value(d), value);
    }

    static HoleDesk rowsDesk() {
        return Desk.of("(let a (pair (def b 1 1) (pair 1 (pick ? (pair 1 ?) (pair ? 2)))) (pair a ?))");
    }

    /** So many FIRST of what is told, most of them by a DEF that is used again and again. */
    static HoleDesk firsts(int many, String of) {
        String program = of;
        for (int i = 0; i < many % 10; i++) {
            program = "(first " + program + ")";
        }
        for (int i = 0; i < many / 10; i++) {
            program = "(use f " + program + ")";
        }
        HoleDesk d = Desk.of("(let f (def x 0 " + "(first ".repeat(10) + "x" + ")".repeat(10) + ") " + program + ")");
        due("24: firsts", d.work(300), 1);
        return d;
    }

    static void deepValues() {
        HoleDesk d = firsts(58, "?");
        due("25: 59 within one another", d.resume(300), 1);
        due("26: and what the hole sees", d.steps(), 60);
        HoleDesk e = firsts(59, "?");
        due("25: what the hole sees is the 61st", e.resume(300), 4);
        due("27: a value", e.where(), Desk.NONE);
        due("26: 60 steps", e.steps(), 60);
        HoleDesk g = firsts(58, "3");
        due("25: a frame, and what is in it", g.resume(300), 1);
        due("26: 60 steps", g.steps(), 60);
        HoleDesk h = firsts(59, "3");
        due("25: what is in the frame is the 61st", h.resume(300), 4);
        due("26: 60 steps", h.steps(), 60);
        HoleDesk f = new HoleDesk();
        for (int i = 0; i < 59; i++) {
            f.put(13, 0, 0);
        }
        Desk.seek(f, new int[59]).shelve(0);
        due("24: 60 within", f.work(300), 1);
        due("25: 60 within", f.resume(300), 1);
        due("26: 60 steps", f.steps(), 60);
        int filled = f.fill(0);
        due("25: what fills it is the 61st", f.resume(300), 4);
        due("27: that", f.where(), filled);
        due("26: 60 steps", f.steps(), 60);
    }

    static void goOn(String program, String first, String filling, int[] hole, int outcome, String then, int steps) {
        HoleDesk d = judgeDesk();
        Desk.put(d, filling);
        Desk.seek(d).shelve(0);
        d.take();
        Desk.put(d, program);
        due("24: " + program, d.work(300), 1);
        due("28: " + program, template(d, Desk.value(d)), first);
        Desk.seek(d, hole).fill(0);
        due("25: " + program + " with " + filling, d.resume(300), outcome);
        due("28: then", template(d, Desk.value(d)), then);
        due("26: steps of going on", d.steps(), steps);
        due("36: outcome", d.count(6), outcome);
        int whole = d.work(300);
        due("25: as worked anew", whole, outcome);
        if (outcome < 2) {
            due("25: as worked anew", template(d, Desk.value(d)), then);
        }
    }

    /** The value with births left out. */
    static String template(HoleDesk d, String value) {
        return value.replaceAll("([?d])\\d+", "$1").replaceAll("(pick .*) \\d+\\)", "$1 #)");
    }

    static void goingOn() {
        goOn("?", "?", "5", path(), 0, "5", 2);
        goOn("(+ ? 1)", "(+ ? 1)", "5", path(0), 0, "6", 4);
        goOn("(+ ? 1)", "(+ ? 1)", "(* 2 3)", path(0), 0, "7", 6);
        goOn("(+ ? ?)", "(+ ? ?)", "5", path(0), 1, "(+ 5 ?)", 4);
        goOn("(let a 3 (+ a ?))", "(+ 3 ?)", "a", path(1, 1), 0, "6", 5);
        goOn("(let a 3 (let b 4 (let a 5 (pair ? b))))", "[? 4]", "(+ a b)", path(1, 1, 1, 0), 0, "[9 4]", 8);
        goOn("(pick ? 1 (+ ? 2))", "(pick ? #)", "no", path(0), 1, "(+ ? 2)", 6);
        goOn("(pick ? 1 2)", "(pick ? #)", "yes", path(0), 0, "1", 4);
        goOn("(let a 7 (pick ? a 2))", "(pick ? #)", "yes", path(1, 0), 0, "7", 6);
        goOn("(use ? 4)", "(use ? 4)", "(def a 1 (+ a 1))", path(0), 0, "5", 7);
        goOn("(first ?)", "(first ?)", "(pair 1 2)", path(0), 0, "1", 5);
        goOn("(second ?)", "(second ?)", "(pair 1 2)", path(0), 0, "2", 5);
        goOn("(told 1 ?)", "?", "5", path(0), 0, "5", 2);
        goOn("(let a ? (+ a a))", "(+ ? ?)", "5", path(0), 0, "10", 5);
        goOn("(/ 1 ?)", "(/ 1 ?)", "0", path(1), 2, "none", 4);
        goOn("(let b 0 (/ 1 ?))", "(/ 1 ?)", "b", path(1, 1), 2, "none", 5);
        goOn("(let a 3 (pair (def b 0 (+ a ?)) ?))", "[d ?]", "a", path(1, 1), 0, "[d 3]", 6);
        goOn("(let f (def b 0 (+ b ?)) (pair (use f 1) f))", "[(+ 1 ?) d]", "b", path(0, 0, 1), 0, "[2 d]", 7);
        goOn("(pair ? z)", "[? !z]", "5", path(0), 1, "[5 !z]", 4);
        goOn("(pair z (+ yes ?))", "[!z (+ {yes} ?)]", "5", path(1, 1), 1, "[!z (+ {yes} 5)]", 7);
        goOn("?", "?", "?", path(), 1, "?", 2);
        goOn("?", "?", "(pair ? 1)", path(), 1, "[? 1]", 4);
        HoleDesk clash = judgeDesk();
        Desk.put(clash, "(told 0 yes)");
        clash.shelve(0);
        clash.take();
        Desk.put(clash, "(+ 1 ?)");
        due("24: left", clash.work(300), 1);
        Desk.seek(clash, 1).fill(0);
        due("25: clash", clash.resume(300), 3);
        due("27: where", clash.where(), Desk.top(clash));
        due("28: no value", Desk.value(clash), "none");
        due("25: it came to 3", clash.resume(300), Desk.STATE);
        HoleDesk twice = judgeDesk();
        twice.shelve(1);
        Desk.put(twice, "(* 2 ?)");
        twice.shelve(0);
        twice.take();
        Desk.put(twice, "(+ 1 ?)");
        twice.work(300);
        Desk.seek(twice, 1).fill(0);
        Desk.seek(twice, 1, 1).fill(1);
        due("25: filled twice", twice.resume(300), 1);
        due("28: its hole", Desk.value(twice), "(+ 1 (* 2 ?" + Desk.at(twice, 1, 1) + "))");
        due("29: its hole", twice.left(0), Desk.at(twice, 1, 1));
        due("25: again", twice.resume(300), 1);
        due("26: steps", twice.steps(), 5);
        HoleDesk spent = Desk.of("(+ 1 ?)");
        spent.work(300);
        due("25: spent", spent.resume(0), 4);
        due("27: a value", spent.where(), Desk.NONE);
        due("26: none", spent.steps(), 0);
        HoleDesk due = Desk.of("(* 2 3)");
        due.shelve(0);
        due.take();
        Desk.put(due, "(+ 1 ?)");
        due.work(300);
        Desk.seek(due, 1).fill(0);
        due("25: spent in what fills", due.resume(3), 4);
        due("27: that node", due.where(), Desk.at(due, 1));
        due("26: three", due.steps(), 3);
        HoleDesk frame = Desk.of("(use 3 ?)");
        frame.work(300);
        due("25: a frame", frame.resume(300), 1);
        due("26: the act, the frame, within, the hole", frame.steps(), 4);
        due("28: in it again", template(frame, Desk.value(frame)), "(use {3} ?)");
    }

    static HoleDesk leftDesk() {
        HoleDesk d = Desk.of("(let a 1 (pair (+ a ?) (def b 0 ?)))");
        Desk.seek(d, 0).shelve(0);
        due("24: left", d.work(300), 1);
        return d;
    }

    static void goingOnRefused() {
        HoleDesk d = leftDesk();
        due("25: n", d.resume(-1), Desk.BAD);
        due("25: n", d.resume(301), Desk.BAD);
        due("25: nothing done", d.resume(300), 1);
        Desk.seek(d, 1, 0, 1).put(1, 1, 0);
        due("25: put", d.resume(300), Desk.STATE);
        due("25: bad ahead of state", d.resume(301), Desk.BAD);
        due("25: the value stays", template(d, Desk.value(d)), "[(+ 1 ?) d]");
        d = leftDesk();
        Desk.seek(d, 1, 0).take();
        due("25: take", d.resume(300), Desk.STATE);
        d.undo();
        due("25: and undo", d.resume(300), Desk.STATE);
        d.work(300);
        due("25: worked again", d.resume(300), 1);
        Desk.seek(d, 1).unwrap(0);
        due("25: unwrap", d.resume(300), Desk.STATE);
        d = leftDesk();
        Desk.seek(d, 0).write(1);
        due("25: write", d.resume(300), Desk.STATE);
        d = leftDesk();
        Desk.seek(d).rename(2);
        due("25: rename", d.resume(300), Desk.STATE);
        d = leftDesk();
        Desk.seek(d).rename(1);
        due("25: a rename that was refused", d.rename(1), 1);
        d = leftDesk();
        Desk.seek(d, 1, 0, 0);
        due("18: moved", d.move(Desk.at(d, 1, 1, 0)) >= 0 ? 1 : 0, 1);
        due("25: move", d.resume(300), Desk.STATE);
        d = leftDesk();
        Desk.seek(d, 1, 0, 1).fill(0);
        d.undo();
        due("25: undo of a fill", d.resume(300), Desk.STATE);
        d = leftDesk();
        d.shelve(3);
        d.go(5);
        d.put(1, 1, 1);
        d.write(4);
        d.rename(27);
        d.fill(1);
        d.offers();
        due("25: what was refused is none", d.resume(300), 1);
        d = Desk.of("yes");
        d.shelve(0);
        d.take();
        Desk.put(d, "(let a ? (+ a 1))");
        due("24: left", d.work(300), 1);
        Desk.seek(d, 0).fill(0);
        due("7: another reason now", Desk.reason(d, 1, 0), 6);
        due("25: another reason", d.resume(300), Desk.STATE);
        d = Desk.of("(def a 1 a)");
        d.shelve(0);
        d.take();
        Desk.put(d, "(use ? yes)");
        due("24: left", d.work(300), 1);
        Desk.seek(d, 0).fill(0);
        due("25: another reason", d.resume(300), Desk.STATE);
        due("24: anew", d.work(300), 1);
        due("28: anew", Desk.value(d), "{yes}");
        d = Desk.of("yes");
        d.shelve(0);
        d.take();
        Desk.put(d, "(+ ? 1)");
        d.work(300);
        Desk.seek(d, 0).fill(0);
        due("25: a new node's frame is none of those", d.resume(300), 1);
        due("28: in its frame", Desk.value(d), "(+ {yes} 1)");
        d = Desk.of("yes");
        d.shelve(0);
        d.take();
        Desk.put(d, "(pick ? ? 1)");
        due("24: left", d.work(300), 1);
        Desk.seek(d, 1).fill(0);
        due("7: the top's reason", Desk.reason(d), 5);
        due("25: the top's reason", d.resume(300), Desk.STATE);
        d = Desk.of("(pick ? 1 yes)");
        due("7: 5", Desk.reason(d), 5);
        due("24: spent", d.work(1), 4);
        due("25: it came to 4", d.resume(300), Desk.STATE);
        d = Desk.of("5");
        due("24: a value", d.work(300), 0);
        due("25: a value is gone on with", d.resume(300), 0);
        due("26: one step", d.steps(), 1);
    }

    static void written() {
        HoleDesk d = Desk.of("(let a (pair 1 ?) (let b no (def c 0 ?)))");
        d.work(300);
        due("28: what a def sees does not count", d.count(6), 0);
        due("29: none is written", d.left(0), Desk.NONE);
        HoleDesk e = Desk.of("(let a (pair 1 ?) (let b no (pair a (pair ? a))))");
        due("24: left", e.work(300), 1);
        int inA = Desk.at(e, 0, 1), here = Desk.at(e, 1, 1, 1, 0);
        due("28: bytes", Desk.value(e), "[[1 ?" + inA + "] [?" + here + " [1 ?" + inA + "]]]");
        due("28: how many", e.value(-1), Desk.value(e).length());
        due("28: none such", e.value(e.value(-1)), Desk.NONE);
        due("28: none such", e.value(-2), Desk.NONE);
        due("28: none such", e.value(MAX), Desk.NONE);
        due("29: each time", e.left(0), inA);
        due("29: each time", e.left(1), here);
        due("29: each time", e.left(2), inA);
        due("29: no more", e.left(3), Desk.NONE);
        due("29: below", e.left(-1), Desk.NONE);
        due("30: sees", Desk.seen(e, 1, 'a'), "[1 ?" + inA + "]");
        due("30: sees", Desk.seen(e, 1, 'b'), "no");
        due("30: sees none", Desk.seen(e, 1, 'c'), "none");
        due("30: sees none", Desk.seen(e, 0, 'a'), "none");
        due("30: byte", e.seen(1, 1, 0), 'n');
        due("30: how many", e.seen(1, 1, -1), 2);
        due("30: none such", e.seen(1, 1, 2), Desk.NONE);
        due("30: none such", e.seen(1, 1, -2), Desk.NONE);
        due("30: none such", e.seen(3, 1, 0), Desk.NONE);
        due("30: none such", e.seen(-1, 1, 0), Desk.NONE);
        due("30: x", e.seen(1, 26, 0), Desk.BAD);
        due("30: x", e.seen(9, -1, 0), Desk.BAD);
        due("30: x, nothing worked", new HoleDesk().seen(0, 26, 0), Desk.BAD);
        due("30: nothing worked", new HoleDesk().seen(0, 0, 0), Desk.NONE);
        Desk.seek(e).rename(25);
        due("28: it stays as it was", Desk.seen(e, 1, 'a'), "[1 ?" + inA + "]");
        Desk.seek(e, 1).take();
        due("29: it stays", e.left(1), here);
        due("24: behind another one", e.work(1), 4);
        due("28: none behind another one", e.value(0), Desk.NONE);
        due("30: none behind another one", e.seen(1, 1, 0), Desk.NONE);
        long400();
        HoleDesk f = Desk.of("z");
        f.work(300);
        f.write(1);
        due("28: a name as it was", Desk.value(f), "!z");
        HoleDesk g = Desk.of("(let a 1 (use (def b 0 (let c 3 ?)) 2))");
        g.work(300);
        due("30: the parameter", Desk.seen(g, 0, 'b'), "2");
        due("30: what the def saw", Desk.seen(g, 0, 'a'), "1");
        due("30: let", Desk.seen(g, 0, 'c'), "3");
        HoleDesk h = Desk.of("(let a 1 (let b ? (let a 2 b)))");
        h.work(300);
        due("30: what it saw, not where its value went", Desk.seen(h, 0, 'a'), "1");
        due("30: not itself", Desk.seen(h, 0, 'b'), "none");
    }

    /** A pair of pairs of .. of what a is, doubled so often, . */
    static String doubled(int times, String text) {
        String program = text;
        for (int i = 0; i < times; i++) {
            program = "(let a (pair a a) " + program + ")";
        }
        return program;
    }

    static void long400() {
        HoleDesk d = Desk.of("(let a ? " + doubled(7, "a") + ")");
        due("24: 128 holes", d.work(300), 1);
        due("28: behind 400 bytes", d.value(-1), 400);
        due("28: none", d.value(400), Desk.NONE);
        String got = Desk.value(d);
        int holes = (int) got.chars().filter(c -> c == '?').count();
        due("29: those among the bytes", d.left(holes - 1), Desk.at(d, 0));
        due("29: no more", d.left(holes), Desk.NONE);
        due("28: it begins so", got.startsWith("[[[[[[[?2 ?2] [?2 ?2]] [[?2") ? 1 : 0, 1);
        HoleDesk e = Desk.of("(let a 1 " + doubled(7, "(pair 1 (pair ? a))") + ")");
        due("24: left", e.work(300), 1);
        due("30: 400 bytes", e.seen(0, 0, -1), 400);
        due("30: the last", e.seen(0, 0, 399) >= 0 ? 1 : 0, 1);
        due("30: none", e.seen(0, 0, 400), Desk.NONE);
        due("30: it begins so", Desk.seen(e, 0, 'a').startsWith("[[[[[[[1 1] [1 1]] [[1") ? 1 : 0, 1);
        HoleDesk f = Desk.of("(let a 1 " + doubled(6, "(pair a (pair a ?))") + ")");
        due("24: left", f.work(300), 1);
        due("28: 64 ones are 253 bytes, so it ends", f.value(-1), 400);
        due("29: the hole is not among them", f.left(0), Desk.NONE);
        HoleDesk g = Desk.of("(let a 123456789 " + doubled(14, "a") + ")");
        due("24: sixteen thousand", g.work(300), 0);
        due("28: behind 400 bytes", g.value(-1), 400);
    }

    static void boxes() {
        HoleDesk d = Desk.of("(let a -3 (pair a (+ 10 0)))");
        int minus3 = Desk.at(d, 0), a = Desk.at(d, 1, 0), ten = Desk.at(d, 1, 1, 0), zero = Desk.at(d, 1, 1, 1);
        due("31: no places at first", d.keep(0, minus3), Desk.FINDING);
        due("37: beyond", d.finding(), 2);
        due("31: above 8", d.box(9), Desk.BAD);
        due("31: fewer than none", d.box(-1), Desk.FINDING);
        due("37: size", d.finding(), 5);
        due("31: far fewer", d.box(MIN), Desk.FINDING);
        due("38: size", d.findings(5), 2);
        due("31: none", d.box(0), 0);
        due("31: eight", d.box(8), 8);
        due("32: keep", d.keep(7, minus3), 1);
        due("32: beyond", d.keep(8, minus3), Desk.FINDING);
        due("32: beyond", d.keep(-1, minus3), Desk.FINDING);
        due("32: bad first", d.keep(8, 0), Desk.BAD);
        due("32: bad", d.keep(0, -1), Desk.BAD);
        due("35: before", d.asked(), 0);
        due("33: number", d.boxed(7, 1), 1);
        due("35: told", d.asked(), -3);
        due("33: unlike", d.boxed(7, 3), Desk.FINDING);
        due("37: unlike", d.finding(), 3);
        due("33: nothing", d.boxed(0, 1), Desk.FINDING);
        due("37: nothing", d.finding(), 1);
        due("33: beyond", d.boxed(8, 1), Desk.FINDING);
        due("37: beyond", d.finding(), 2);
        due("33: sort ahead of all", d.boxed(8, 2), Desk.BAD);
        due("33: sort", d.boxed(7, 0), Desk.BAD);
        due("35: it stays", d.asked(), -3);
        due("32: a name", d.keep(0, a), 1);
        due("33: name", d.boxed(0, 3), 1);
        due("35: x", d.asked(), 0);
        due("33: unlike", d.boxed(0, 1), Desk.FINDING);
        due("17: rename", Desk.seek(d).rename(4), 1);
        due("33: as it became", d.boxed(0, 3), 1);
        due("35: x", d.asked(), 4);
        due("32: a sum", d.keep(1, Desk.at(d, 1, 1)), 1);
        due("33: unlike", d.boxed(1, 1), Desk.FINDING);
        due("32: ten", d.keep(2, ten), 1);
        due("32: zero", d.keep(3, zero), 1);
        due("34: share", d.share(2, 7), 1);
        due("35: cut", d.asked(), -3333);
        due("34: share", d.share(7, 2), 1);
        due("35: a thousand times", d.asked(), -300);
        due("34: nought over", d.share(3, 2), 1);
        due("35: nought", d.asked(), 0);
        due("34: nought", d.share(2, 3), Desk.FINDING);
        due("37: nought", d.finding(), 4);
        due("34: unlike ahead of nought", d.share(0, 3), Desk.FINDING);
        due("37: unlike", d.finding(), 3);
        due("34: nothing ahead of unlike", d.share(0, 5), Desk.FINDING);
        due("37: nothing", d.finding(), 1);
        due("34: beyond ahead of nothing", d.share(5, 8), Desk.FINDING);
        due("37: beyond", d.finding(), 2);
        due("34: beyond", d.share(-1, 2), Desk.FINDING);
        due("37: beyond", d.finding(), 2);
        Desk.seek(d, 1, 1, 0).write(MAX);
        due("34: share", d.share(2, 2), 1);
        due("35: itself", d.asked(), 1000);
        Desk.seek(d, 1, 1, 1).write(1);
        due("34: it wraps", d.share(2, 3), 1);
        due("35: it wraps", d.asked(), -1000);
        Desk.seek(d).take();
        due("33: not in the sheet any more", d.boxed(2, 1), 1);
        due("35: as it was", d.asked(), MAX);
        due("32: none such now", d.keep(2, ten), Desk.BAD);
        d.undo();
        d.undo();
        d.undo();
        due("33: as it is", d.boxed(2, 1), 1);
        due("35: as it is", d.asked(), 10);
        due("31: empty again", d.box(8), 8);
        due("33: what it had is gone", d.boxed(2, 1), Desk.FINDING);
        due("37: nothing", d.finding(), 1);
        due("31: refused", d.box(9), Desk.BAD);
        due("32: still eight", d.keep(7, zero), 1);
        due("31: smaller", d.box(1), 1);
        due("32: beyond", d.keep(1, zero), Desk.FINDING);
    }

    static void counting() {
        HoleDesk d = Desk.of("(+ yes (* z ?))");
        due("36: kinds", d.count(0), 3);
        d.kind(true, 0, 0);
        due("36: kinds", d.count(0), 4);
        due("36: births", d.count(1), 9);
        due("36: acts", d.count(2), 4);
        due("36: frames", d.count(3), 2);
        due("36: holes", d.count(4), 1);
        due("36: shelf", d.count(5), 0);
        d.shelve(0);
        d.shelve(4);
        due("36: shelf", d.count(5), 10);
        due("36: outcome", d.count(6), Desk.NONE);
        d.work(0);
        due("36: outcome", d.count(6), 4);
        due("36: what", d.count(7), Desk.BAD);
        due("36: what", d.count(-1), Desk.BAD);
    }

    static void findingsAndDigest() {
        HoleDesk d = new HoleDesk();
        due("37: before any", d.finding(), 0);
        due("38: what", d.findings(0), Desk.BAD);
        due("38: what", d.findings(6), Desk.BAD);
        for (int f = 1; f <= 5; f++) {
            due("38: none", d.findings(f), 0);
        }
        d.box(-1);
        d.part(0, 0);
        d.part(0, 1);
        due("37: the latest", d.finding(), 2);
        due("38: two", d.findings(2), 2);
        due("38: one", d.findings(5), 1);
        d.go(9);
        due("37: it stays", d.finding(), 2);
        HoleDesk e = Desk.of("(def b 2 (+ b 4))");
        due("39: digest", e.digest(), digestOf(new int[][] {{1, 8, 1, 2, 0}, {3, 4, -9, -9, 0},
            {6, 3, 1, -9, 6}, {7, 1, 4, -9, 0}}, 1, 8));
        e.seek(7);
        due("39: cursor", e.digest(), digestOf(new int[][] {{1, 8, 1, 2, 0}, {3, 4, -9, -9, 0},
            {6, 3, 1, -9, 6}, {7, 1, 4, -9, 0}}, 7, 8));
    }
}
