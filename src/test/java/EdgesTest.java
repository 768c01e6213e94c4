/**
 * The edges that the document names for kinds, the sheet, the acts and the box, a test on both sides of
 * each: what is the last to be taken, and what is the first that is not.
 */
public final class EdgesTest {
    static final int MIN = Integer.MIN_VALUE, MAX = Integer.MAX_VALUE;

    static void due(String what, long got, long want) {
        Desk.due(what, got, want);
    }

    static void due(String what, String got, String want) {
        Desk.due(what, got, want);
    }

    public static void main(String[] args) {
        objects();
        kindNumbers();
        kindSizes();
        sizesThatComeAbout();
        sizesTogether();
        meeting();
        nodesAndBirths();
        birthsPerSort();
        told();
        signs();
        listed();
        asked();
        binding();
        going();
        written();
        acted();
        shelf();
        undone();
        offered();
        boxPlaces();
        shares();
        keptNodes();
        counted();
        digests();
        Desk.end();
    }

    static void objects() {
        HoleDesk one = new HoleDesk();
        HoleDesk other = new HoleDesk();
        one.kind(true, 1, 1);
        one.put(1, 5, 0);
        one.shelve(0);
        one.box(8);
        one.part(1, 0);
        one.work(300);
        due("1: one HOLE", other.nodes(), 1);
        due("1: its BIRTH", other.cursor(), 0);
        due("1: KINDS of its own", other.count(0), 3);
        due("1: births of its own", other.count(1), 1);
        due("1: nothing can be undone", other.count(2), 0);
        due("1: an empty SHELF", other.count(5), 0);
        due("1: nothing worked", other.count(6), Desk.NONE);
        due("1: no steps", other.steps(), 0);
        due("1: nowhere", other.where(), Desk.NONE);
        due("1: no value", other.value(-1), Desk.NONE);
        due("1: no finding", other.finding() + other.findings(2), 0);
        due("1: nothing asked", other.asked(), 0);
        due("1: no places", other.keep(0, 0), Desk.FINDING);
        due("1: births begin anew", other.put(1, 5, 0), 1);
    }

    // ---- 1 kinds

    static void kindNumbers() {
        HoleDesk d = new HoleDesk();
        due("KINDS: 0, 1, 2 are told, 3 is not", d.kindOf(2, 0), 2);
        due("KINDS: 0, 1, 2 are told, 3 is not", d.kindOf(3, 0), Desk.BAD);
        due("2: 3 is not told yet", d.kind(false, 3, 0), Desk.BAD);
        due("2: the first one", d.kind(false, 2, 0), 3);
        due("2: now it is", d.kind(false, 3, 0), 4);
        due("2: FROM is not PAIR OF", d.kind(true, 3, 0), 5);
        due("2: first and second", d.kind(true, 0, 3), 6);
        due("2: the number that it has already", d.kind(true, 3, 0), 5);
        due("36: it is told once", d.count(0), 7);
        due("2: UNKNOWN of UNKNOWN", d.kind(false, 0, 0), 7);
        due("3: UNKNOWN of UNKNOWN is no UNKNOWN", d.kindOf(7, 0), 3);
        HoleDesk e = RefusalsTest.fullKinds();
        due("KINDS: the 40th", e.kindOf(39, 3) > 0 ? 1 : 0, 1);
        due("KINDS: no 41st", e.kind(true, 12, 0), Desk.FULL);
        due("KINDS: no 41st", e.kindOf(40, 0), Desk.BAD);
        due("2: full, but it has a number", e.kind(true, 1, 1), 3);
        due("13: k 39", e.put(15, 0, 39), 1);
        due("7: k 39", e.told(1, 2), 39);
        due("13: k 40", e.put(15, 0, 40), Desk.BAD);
        fullAndJudged();
        HoleDesk f = new HoleDesk();
        f.kind(true, 1, 1);
        due("13: k 3", f.put(8, 0, 3), 1);
        due("13: k 4", f.put(8, 0, 4), Desk.BAD);
        due("4: meet 3", f.meet(3, 3), 1);
        due("4: meet 4", f.meet(3, 4), Desk.BAD);
        due("3: what 3", f.kindOf(3, 3), 3);
        due("3: what 4", f.kindOf(3, 4), Desk.BAD);
        due("3: what 0", f.kindOf(0, 0), 0);
        due("3: what -1", f.kindOf(0, -1), Desk.BAD);
    }

    /** What judging makes is not told, and leaves what was told. */
    static void fullAndJudged() {
        HoleDesk d = new HoleDesk();
        int[] k = chain(d);
        for (int size = 1; d.count(0) < 40; size += 2) {
            d.kind(false, 2, k[size]);
        }
        due("13: a PAIR", d.put(12, 0, 0), 1);
        d.seek(2);
        Desk.put(d, "(def a 1 5)");
        d.seek(3);
        Desk.put(d, around("(pair 1", 25, "yes"));
        due("9: it made FROM WHOLE TO WHOLE", Desk.made(d, 0), "fww");
        due("36: that was not told", d.count(0), 40);
        due("2: nor is it now", d.kind(false, 1, 1), Desk.FULL);
        due("3: the first", d.kindOf(3, 1) + d.kindOf(3, 2), 2);
        for (int size = 3; size <= 39; size += 2) {
            due("3: what it is", d.kindOf(k[size], 0), 4);
            due("3: its first part", d.kindOf(k[size], 1), 1);
            due("3: its second part", d.kindOf(k[size], 2), k[size - 2]);
            due("3: its SIZE", d.kindOf(k[size], 3), size);
        }
        for (int i = k[39] + 1; i < 40; i++) {
            due("3: what it is", d.kindOf(i, 0), 3);
            due("3: its first part", d.kindOf(i, 1), 2);
        }
    }

    static String around(String ahead, int times, String text) {
        return (ahead + " ").repeat(times) + text + ")".repeat(times);
    }

    /** KINDS of a desk by their SIZE: 1, 3, .. 39 at [SIZE]. */
    static int[] chain(HoleDesk d) {
        int[] ofSize = new int[40];
        ofSize[1] = 1;
        for (int size = 3; size <= 39; size += 2) {
            ofSize[size] = d.kind(true, 1, ofSize[size - 2]);
        }
        return ofSize;
    }

    static void kindSizes() {
        HoleDesk d = new HoleDesk();
        int[] k = chain(d);
        due("KINDS: SIZE 1 and its parts'", d.kindOf(k[39], 3), 39);
        int told = d.count(0);
        due("2: 39 more by 1 is 41", d.kind(true, 1, k[39]), Desk.BAD);
        due("2: 41 the other way", d.kind(false, k[39], 1), Desk.BAD);
        due("2: 41 of two", d.kind(false, k[21], k[19]), Desk.BAD);
        due("2: 79", d.kind(true, k[39], k[39]), Desk.BAD);
        due("36: none was told", d.count(0), told);
        due("2: 39 of two", d.kindOf(d.kind(false, k[19], k[19]), 3), 39);
        due("2: 39 of two", d.kindOf(d.kind(true, k[37], 1), 3), 39);
        due("2: 39 of two", d.kindOf(d.kind(false, 0, k[37]), 3), 39);
    }

    static int length(HoleDesk d, int... path) {
        return Desk.made(d, path).length();
    }

    static void sizesThatComeAbout() {
        for (boolean above : new boolean[] {false, true}) {
            int most = above ? 1 : 39;
            HoleDesk d = new HoleDesk();
            int[] k = chain(d);
            int second = above ? k[21] : k[19];
            Desk.put(d, "(def a " + k[19] + " (told " + second + " ?))");
            due("KINDS: a DEF that makes 39, 41", length(d), most);
            due("KINDS: UNKNOWN instead", Desk.made(d).charAt(0), above ? '?' : 'f');
            HoleDesk e = new HoleDesk();
            chain(e);
            Desk.put(e, "(pair (told " + k[19] + " ?) (told " + second + " ?))");
            due("KINDS: a PAIR that makes 39, 41", length(e), most);
            due("KINDS: UNKNOWN instead", Desk.made(e).charAt(0), above ? '?' : 'p');
            HoleDesk f = new HoleDesk();
            chain(f);
            Desk.put(f, "(+ (pair (told " + k[19] + " ?) (told " + second + " ?)) 1)");
            due("7: UNKNOWN meets WHOLE, PAIR OF does not", Desk.reason(f, 0), above ? 0 : 6);
            HoleDesk g = new HoleDesk();
            chain(g);
            Desk.put(g, "(use (pair (told " + k[19] + " ?) (told " + second + " ?)) 1)");
            due("7: UNKNOWN is used, PAIR OF is not", Desk.reason(g, 0), above ? 0 : 2);
            HoleDesk h = new HoleDesk();
            chain(h);
            Desk.put(h, "(let a (pair (told " + k[19] + " ?) (told " + second + " ?)) (second a))");
            due("9: the half of UNKNOWN", length(h, 1), above ? 1 : 19);
            HoleDesk i = new HoleDesk();
            chain(i);
            Desk.put(i, "(pick ? (pair (told " + k[19] + " ?) (told " + second + " ?)) 3)");
            due("7: what the others made MEETS UNKNOWN", Desk.reason(i), above ? 0 : 5);
        }
    }

    static void sizesTogether() {
        for (boolean above : new boolean[] {false, true}) {
            HoleDesk d = new HoleDesk();
            int[] k = chain(d);
            int second = above ? k[21] : k[19];
            Desk.put(d, "(pick ? (pair (told " + k[19] + " ?) ?) (pair ? (told " + second + " ?)))");
            due("KINDS: TOGETHER 39, 41", length(d), above ? 1 : 39);
            due("7: that is no FRAME", Desk.reason(d), 0);
            HoleDesk e = new HoleDesk();
            k = chain(e);
            String whole = "(told 1 ?)";
            second = above ? k[21] : k[17];
            Desk.put(e, "(pick ? (pair (pair (told " + k[19] + " ?) ?) " + whole + ") (pair (pair ? (told " + second
                + " ?)) " + whole + "))");
            due("KINDS: a part of it, 37, 41", Desk.made(e).length(), above ? 3 : 39);
            due("KINDS: only that part is UNKNOWN", Desk.made(e).substring(0, 2), above ? "p?" : "pp");
        }
        HoleDesk f = new HoleDesk();
        int[] k = chain(f);
        Desk.put(f, "(pick ? (pair (pair (told " + k[19] + " ?) ?) 1) (pair (pair ? (told " + k[19] + " ?)) 1))");
        due("KINDS: a part of 39, 41 in all", Desk.made(f), "?");
    }

    static void meeting() {
        HoleDesk d = new HoleDesk();
        int[] k = chain(d);
        due("4: two of 39", d.meet(k[39], k[39]), 1);
        due("4: one is shorter: WHOLE, PAIR OF at the end", d.meet(k[39], k[37]), 0);
        HoleDesk e = new HoleDesk();
        int a = 0;
        int b = 2;
        int c = 1;
        for (int i = 0; i < 9; i++) {
            a = e.kind(i % 2 == 0, 1, a);
            b = e.kind(i % 2 == 0, 1, b);
            c = e.kind(i % 2 == 0, 1, c);
        }
        due("4: UNKNOWN deep within", e.meet(a, b) + e.meet(c, a), 2);
        due("4: WHOLE, TRUTH deep within", e.meet(b, c), 0);
        due("4: UNKNOWN, UNKNOWN", e.meet(0, 0), 1);
        due("4: TRUTH, WHOLE", e.meet(2, 1), 0);
        due("4: TRUTH, TRUTH", e.meet(2, 2), 1);
    }

    // ---- 2 the sheet

    static void nodesAndBirths() {
        for (int sort = 4; sort <= 15; sort++) {
            int parts = new int[] {2, 2, 2, 2, 1, 2, 2, 3, 2, 1, 1, 1}[sort - 4];
            for (int nodes = 60 - parts; nodes <= 61 - parts; nodes++) {
                boolean full = nodes + parts > 60;
                HoleDesk d = withNodes(nodes);
                int births = d.count(1);
                due("13: 60 NODES, sort " + sort, d.put(sort, 0, 0), full ? Desk.FULL : births);
                due("5: nodes", d.nodes(), full ? nodes : 60);
                due("36: births", d.count(1), full ? births : births + parts + 1);
                HoleDesk e = withNodes(nodes);
                e.go(5);
                due("13: 60 NODES around, sort " + sort, e.put(sort, 0, 0), full ? Desk.FULL : births);
                due("5: nodes", e.nodes(), full ? nodes : 60);
                due("36: births", e.count(1), full ? births : births + parts);
            }
        }
        for (int sort = 1; sort <= 3; sort++) {
            HoleDesk d = withNodes(60);
            due("13: where a HOLE was, sort " + sort, d.put(sort, 1, 0), d.count(1) - 1);
            due("5: 60 still", d.nodes(), 60);
        }
    }

    /** So many NODES, one part each; the cursor on the hole. */
    static HoleDesk withNodes(int nodes) {
        HoleDesk d = new HoleDesk();
        for (int i = 1; i < nodes; i++) {
            d.put(13, 0, 0);
        }
        d.go(4);
        due("so many nodes", d.nodes(), nodes);
        return d;
    }

    static void birthsPerSort() {
        for (int sort = 1; sort <= 15; sort++) {
            int parts = new int[] {0, 0, 0, 2, 2, 2, 2, 1, 2, 2, 3, 2, 1, 1, 1}[sort - 1];
            for (int left = parts; left <= parts + 1; left++) {
                HoleDesk d = RefusalsTest.births(3000 - left, "(+ 1 ?)", 1).get();
                boolean full = left < parts + 1;
                due("13: births, sort " + sort, d.put(sort, 1, 0), full ? Desk.FULL : 3000 - left);
                due("36: births", d.count(1), full ? 3000 - left : 3000);
            }
            for (int left = parts - 1; left <= parts && parts > 0; left++) {
                HoleDesk d = RefusalsTest.births(3000 - left, "(+ 1 ?)").get();
                boolean full = left < parts;
                due("13: births around, sort " + sort, d.put(sort, 1, 0), full ? Desk.FULL : 3000 - left);
                due("36: births", d.count(1), full ? 3000 - left : 3000);
            }
        }
        HoleDesk last = RefusalsTest.births(2999, "(+ 1 ?)", 0).get();
        due("14: the last birth", last.take(), 2999);
        due("14: none is left", Desk.seek(last).take(), Desk.FULL);
        HoleDesk move = RefusalsTest.births(2999, "(+ 1 ?)", 0).get();
        due("18: the last birth", move.move(Desk.at(move, 1)), 2999);
        due("18: none is left", move.move(2999), Desk.FULL);
        HoleDesk fill = RefusalsTest.births(2997, "(+ ? ?)").get();
        fill.shelve(1);
        due("20: the last births", Desk.seek(fill, 0).fill(1), 2997);
        due("36: all", fill.count(1), 3000);
        HoleDesk fewer = RefusalsTest.births(2998, "(+ ? ?)").get();
        fewer.shelve(1);
        due("20: one fewer than needed", Desk.seek(fewer, 0).fill(1), Desk.FULL);
        due("15: unwrap needs none", fill.unwrap(0), 2998);
        HoleDesk all = RefusalsTest.births(3000, "(let a 1 a)", 0).get();
        due("16: write needs none", all.write(2), 1);
        due("17: rename needs none", Desk.seek(all).rename(3), 1);
        due("24: work needs none", all.work(300), 0);
        due("22: offers look at what would be in no FRAME", RefusalsTest.births(3000, "?").get().offers(), 14);
        due("22: offers with 60 NODES", withNodes(60).offers(), 7);
        int left = all.undo();
        due("21: undo needs none", all.count(2), left);
        due("21: births go on", all.count(1), 3000);
    }

    static void told() {
        HoleDesk d = Desk.of("(pick (told 2 ?) (def z 1 (let y yes -2147483648)) (pair 2147483647 z))");
        int last = d.count(1) - 1;
        due("7: the latest birth", d.told(last, 0), Desk.NAME);
        due("7: none such", d.told(last + 1, 0), Desk.BAD);
        due("7: one that went", d.told(0, 0), Desk.BAD);
        due("7: what 6", d.told(last, 6), 1);
        due("7: what 7", d.told(last, 7), Desk.BAD);
        due("7: what -1", d.told(last, -1), Desk.BAD);
        due("7: the smallest number", d.told(Desk.at(d, 1, 0, 1), 1), MIN);
        due("7: the largest number", d.told(Desk.at(d, 2, 0), 1), MAX);
        due("7: x 25", d.told(Desk.at(d, 1), 1), 25);
        int[] parts = {3, 1, 2, 0};
        int[][] paths = {{}, {0}, {2}, {2, 1}};
        for (int i = 0; i < parts.length; i++) {
            int birth = Desk.at(d, paths[i]);
            due("7: how many parts", d.told(birth, 5), parts[i]);
            for (int part = -1; part <= 3; part++) {
                boolean has = part >= 0 && part < parts[i];
                due("8: part " + part + " of " + parts[i], d.part(birth, part) >= 0 ? 1 : 0, has ? 1 : 0);
                if (!has) {
                    due("8: BEYOND", d.part(birth, part), Desk.FINDING);
                    due("37: BEYOND", d.finding(), 2);
                }
            }
        }
        due("7: which part, the last", d.told(Desk.at(d, 2), 4), 2);
        due("7: which part, of the top", d.told(Desk.top(d), 4), Desk.NONE);
        HoleDesk e = new HoleDesk();
        due("7: the first birth", e.told(0, 0), 0);
        due("7: none yet", e.told(1, 0), Desk.BAD);
        for (int what = 0; what <= 6; what++) {
            due("7: of a HOLE, " + what, e.told(0, what), new int[] {0, -9, -9, -9, -9, 0, 0}[what]);
        }
    }

    static void signs() {
        HoleDesk d = new HoleDesk();
        int[] k = chain(d);
        Desk.put(d, "(told " + k[39] + " ?)");
        int top = Desk.top(d), hole = Desk.at(d, 0);
        due("9: the first sign", d.sign(top, false, 0), 'p');
        due("9: the last sign", d.sign(top, false, 38), 'w');
        due("9: behind its end", d.sign(top, false, 39), Desk.NONE);
        due("9: below", d.sign(top, false, -1), Desk.BAD);
        due("9: what it is asked for, the last", d.sign(hole, true, 38), 'w');
        due("9: behind its end", d.sign(hole, true, 39), Desk.NONE);
        due("9: what it made, the last", d.sign(hole, false, 0), '?');
        due("9: behind its end", d.sign(hole, false, 1), Desk.NONE);
        due("9: asked FREELY", d.sign(top, true, 0), Desk.NONE);
        due("9: below, asked FREELY", d.sign(top, true, -1), Desk.BAD);
        due("9: asked for UNKNOWN is not FREELY", Desk.of("(told 0 ?)").sign(2, true, 0), '?');
        String[] made = {"?", "1", "yes", "(told 3 ?)", "(told 4 ?)"};
        for (int i = 0; i < made.length; i++) {
            HoleDesk e = new HoleDesk();
            e.kind(false, 2, 0);
            e.kind(true, 0, 1);
            Desk.put(e, made[i]);
            due("9: signs of " + made[i], Desk.made(e), new String[] {"?", "w", "t", "ft?", "p?w"}[i]);
        }
    }

    static void listed() {
        HoleDesk none = Desk.of("(+ 1 2)");
        due("10: no HOLE", none.hole(0, false), Desk.NONE);
        due("10: no FRAME", none.hole(0, true), Desk.NONE);
        HoleDesk d = Desk.of("(pick ? (+ yes ?) ?)");
        for (int i : new int[] {MIN, -1, 3, MAX}) {
            due("10: no HOLE " + i, d.hole(i, false), Desk.NONE);
        }
        due("10: the first", d.hole(0, false), Desk.at(d, 0));
        due("10: the last", d.hole(2, false), Desk.at(d, 2));
        for (int i : new int[] {MIN, -1, 1, MAX}) {
            due("10: no FRAME " + i, d.hole(i, true), Desk.NONE);
        }
        due("10: the only one", d.hole(0, true), Desk.at(d, 1, 0));
        HoleDesk full = new HoleDesk();
        for (int i = 0; i < 29; i++) {
            full.put(12, 0, 0);
            full.go(4);
        }
        due("10: 30 HOLES", full.hole(29, false) >= 0 ? 1 : 0, 1);
        due("10: not 31", full.hole(30, false), Desk.NONE);
        due("36: 30 HOLES", full.count(4), 30);
        due("5: 59", full.nodes(), 59);
    }

    static void asked() {
        HoleDesk d = PromisesTest.judgeDesk();
        Desk.put(d, "(told 4 (pair ? ?))");
        due("JUDGING: PAIR asked for PAIR OF a AND b: for a", Desk.asked(d, 0, 0), "w");
        due("JUDGING: for b", Desk.asked(d, 0, 1), "t");
        HoleDesk e = PromisesTest.judgeDesk();
        Desk.put(e, "(told 3 (pair ? ?))");
        due("JUDGING: PAIR asked for another one: both FREELY", Desk.asked(e, 0, 0) + Desk.asked(e, 0, 1), "");
        due("JUDGING: in a FRAME", Desk.reason(e, 0), 6);
        HoleDesk f = PromisesTest.judgeDesk();
        Desk.put(f, "(told 0 (pair ? ?))");
        due("JUDGING: PAIR asked for UNKNOWN: both for UNKNOWN", Desk.asked(f, 0, 0) + Desk.asked(f, 0, 1), "??");
        HoleDesk g = PromisesTest.judgeDesk();
        Desk.put(g, "(told 4 (pair yes 1))");
        due("JUDGING: not the one", Desk.reason(g, 0, 0), 6);
        due("JUDGING: nor the other", Desk.reason(g, 0, 1), 6);
        due("JUDGING: UNKNOWN for it, so that it MEETS", Desk.reason(g, 0), 0);
        due("JUDGING: what it made of these", Desk.made(g, 0), "p??");
    }

    static void binding() {
        due("SHEET: in the BODY", Desk.reason(Desk.of("(def a 0 a)"), 0), 0);
        due("SHEET: beside the DEF", Desk.reason(Desk.of("(pair (def a 0 1) a)"), 1), 1);
        due("SHEET: in the second part of a LET", Desk.reason(Desk.of("(let a 1 a)"), 1), 0);
        due("SHEET: in its first part", Desk.reason(Desk.of("(let a a 1)"), 0), 1);
        due("SHEET: in its first part, deeper", Desk.reason(Desk.of("(let a (def b 0 (+ a b)) 1)"), 0, 0, 0), 1);
        due("SHEET: in its first part, bound further out", Desk.made(Desk.of("(let a yes (let a a a))"), 1, 0), "t");
        due("SHEET: the nearest", Desk.made(Desk.of("(let a yes (def a 1 a))"), 1, 0), "w");
        due("SHEET: the nearest", Desk.made(Desk.of("(def a 1 (let a yes a))"), 0, 1), "t");
        due("SHEET: another letter", Desk.reason(Desk.of("(def b 0 a)"), 0), 1);
        due("SHEET: z", Desk.reason(Desk.of("(def z 0 z)"), 0), 0);
    }

    // ---- 3 acts

    static void going() {
        HoleDesk d = Desk.of("(pick ? (+ ? 1) ?)");
        int[] from = {0, 1, 2, 1};
        int[] way = {2, 2, 3, 3};
        int[] to = {1, 2, 1, 0};
        for (int i = 0; i < from.length; i++) {
            due("11: beside", Desk.seek(d, from[i]).go(way[i]), Desk.at(d, to[i]));
        }
        due("11: none behind the last", Desk.seek(d, 2).go(2), Desk.STATE);
        due("11: none ahead of the first", Desk.seek(d, 0).go(3), Desk.STATE);
        due("11: a HOLE behind it, its own part", Desk.seek(d, 1).go(4), Desk.at(d, 1, 0));
        due("11: not itself", d.go(4), Desk.at(d, 2));
        due("11: none behind that", d.go(4), Desk.STATE);
        due("11: the top from the top", Desk.seek(d).go(5), d.cursor());
        due("11: from the top to the first HOLE", d.go(4), Desk.at(d, 0));
        due("11: 5 is the last way", d.go(5), Desk.top(d));
        due("11: 6 is none", d.go(6), Desk.BAD);
        due("11: -1 is none", d.go(-1), Desk.BAD);
        due("12: seek where it is", d.seek(d.cursor()), 1);
    }

    static void written() {
        HoleDesk d = Desk.of("(pair 0 (pair yes a))");
        Desk.seek(d, 0);
        due("16: the smallest int", d.write(MIN), 0);
        due("16: the largest int", d.write(MAX), MIN);
        due("16: it became that", d.write(-1), MAX);
        Desk.seek(d, 1, 0);
        due("16: 0", d.write(0), 1);
        due("16: 1", d.write(1), 0);
        due("16: 2", d.write(2), Desk.BAD);
        due("16: -1", d.write(-1), Desk.BAD);
        Desk.seek(d, 1, 1);
        due("16: x 25", d.write(25), 0);
        due("16: x 26", d.write(26), Desk.BAD);
        due("16: x 0", d.write(0), 25);
        due("16: x -1", d.write(-1), Desk.BAD);
        due("16: as it was", d.write(0), 0);
        for (int sort : new int[] {3, 8, 10}) {
            due("13: x 0", new HoleDesk().put(sort, 0, 0), 1);
            due("13: x 25", new HoleDesk().put(sort, 25, 0), 1);
            due("13: x 26", new HoleDesk().put(sort, 26, 0), Desk.BAD);
            due("13: x -1", new HoleDesk().put(sort, -1, 0), Desk.BAD);
        }
        due("13: truth 0", new HoleDesk().put(2, 0, 0), 1);
        due("13: truth 1", new HoleDesk().put(2, 1, 0), 1);
        due("13: truth 2", new HoleDesk().put(2, 2, 0), Desk.BAD);
        due("13: truth -1", new HoleDesk().put(2, -1, 0), Desk.BAD);
        for (int sort : new int[] {1, 2, 3, 4, 9, 10, 11, 12, 14}) {
            due("13: k is not looked at, sort " + sort, new HoleDesk().put(sort, 1, MIN), 1);
        }
        for (int sort : new int[] {4, 5, 6, 7, 9, 11, 12, 13, 14, 15}) {
            due("13: v is not looked at, sort " + sort, new HoleDesk().put(sort, MAX, 0), 1);
        }
        due("17: x 0", Desk.of("(let b 1 b)").rename(0), 1);
        due("17: x 25", Desk.of("(let b 1 b)").rename(25), 1);
        due("17: x 26", Desk.of("(let b 1 b)").rename(26), Desk.BAD);
        due("17: as it was", Desk.of("(let b 1 b)").rename(1), 1);
        due("17: no NAMES", Desk.of("(def b 1 c)").rename(0), 0);
    }

    static void acted() {
        HoleDesk d = Desk.of("(pair 1 (pick 2 3 (+ 4 5)))");
        int sum = Desk.at(d, 1, 2);
        Desk.seek(d, 1);
        due("15: the last part", d.unwrap(2), sum);
        due("15: THE CURSOR is on it", d.cursor(), sum);
        due("15: in its place", d.told(sum, 4), 1);
        Desk.seek(d, 1);
        due("15: the first part", d.unwrap(0) == d.cursor() ? 1 : 0, 1);
        due("15: all else goes", Desk.sheet(d), "(pair 1 4)");
        HoleDesk e = Desk.of("5");
        due("13: around the top", e.put(13, 0, 0), 2);
        due("7: its part", e.told(1, 3), 2);
        due("21: undone", e.undo(), 1);
        due("7: the top again", e.told(1, 3), Desk.NONE);
        due("7: no part of any", e.told(1, 4), Desk.NONE);
        due("11: no up", e.go(0), Desk.STATE);
        PromisesTest.move("(pair 1 (pair z (def z 0 ?)))", new int[] {0}, new int[] {1, 1, 0}, 0,
            "(pair ? (pair z (def z 0 1)))");
        PromisesTest.move("(pair (pair 1 z) (def z 0 ?))", new int[] {0, 0}, new int[] {1, 0}, 0,
            "(pair (pair ? z) (def z 0 1))");
        PromisesTest.move("(pair (pair z 1) (def z 0 ?))", new int[] {0, 1}, new int[] {1, 0}, 0,
            "(pair (pair z ?) (def z 0 1))");
        PromisesTest.move("(pair (pair a ?) (let a 1 ?))", new int[] {0, 1}, new int[] {1, 1}, 0,
            "(pair (pair a ?) (let a 1 ?))");
        PromisesTest.move("(def z 0 (pair 1 (pair z (def z 0 ?))))", new int[] {0, 0}, new int[] {0, 1, 1, 0}, 0,
            "(def z 0 (pair ? (pair z (def z 0 1))))");
        due("36: a HOLE at the top", new HoleDesk().count(4), 1);
        due("36: no FRAME", new HoleDesk().count(3), 0);
        due("36: a FRAME at the top", Desk.of("z").count(3), 1);
        due("36: no HOLE", Desk.of("z").count(4), 0);
    }

    static void shelf() {
        HoleDesk d = Desk.of("(+ 1 ?)");
        due("19: place 0", d.shelve(0), 3);
        due("19: place 5", d.shelve(5), 3);
        due("19: place 6", d.shelve(6), Desk.BAD);
        due("19: place -1", d.shelve(-1), Desk.BAD);
        for (int place = 1; place < 5; place++) {
            due("19: all places", d.shelve(place), 3);
        }
        due("36: six of three", d.count(5), 18);
        due("19: one HOLE", Desk.seek(d, 1).shelve(0), 1);
        due("36: instead", d.count(5), 16);
        due("20: place 5", d.fill(5), d.count(1) - 3);
        due("20: one HOLE fills one", Desk.seek(d, 1, 1).fill(0), d.count(1) - 1);
        due("20: still a HOLE", d.told(d.cursor(), 0), 0);
        HoleDesk sixty = withNodes(60);
        sixty.go(5);
        for (int place = 0; place < 6; place++) {
            due("19: 60 NODES", sixty.shelve(place), 60);
        }
        due("36: 360 NODES", sixty.count(5), 360);
        sixty.take();
        due("20: 60 NODES", sixty.fill(3), sixty.count(1) - 60);
        due("5: 60", sixty.nodes(), 60);
        due("20: 61 would be", withHoleAndSixty().fill(0), Desk.FULL);
        due("20: 60 of 30 and 31 less the HOLE", fillInto(30, 31).nodes(), 60);
        due("20: 61 of 31 and 31 less the HOLE", fillInto(31, 31).nodes(), 31);
    }

    /** (first ?), the cursor on the hole, and 60 NODES in place 0. */
    static HoleDesk withHoleAndSixty() {
        HoleDesk d = withNodes(60);
        d.go(5);
        d.shelve(0);
        d.take();
        d.put(13, 0, 0);
        d.go(4);
        return d;
    }

    /** So many NODES put into the HOLE of a sheet of so many others. */
    static HoleDesk fillInto(int sheet, int filling) {
        HoleDesk d = withNodes(filling);
        d.go(5);
        d.shelve(1);
        d.take();
        for (int i = 1; i < sheet; i++) {
            d.put(14, 0, 0);
        }
        d.go(4);
        int births = d.count(1);
        boolean full = sheet - 1 + filling > 60;
        due("20: so many NODES", d.fill(1), full ? Desk.FULL : births);
        return d;
    }

    static void undone() {
        for (int acts = 19; acts <= 22; acts++) {
            HoleDesk d = Desk.of("7");
            for (int i = 1; i < acts; i++) {
                d.write(100 + i);
            }
            int kept = Math.min(acts, 20);
            due("36: kept of " + acts, d.count(2), kept);
            for (int left = kept - 1; left >= 0; left--) {
                due("21: left of " + acts, d.undo(), left);
            }
            due("21: no more", d.undo(), Desk.STATE);
            String first = acts <= 20 ? "?" : acts == 21 ? "7" : "101";
            due("21: as ahead of the first that is kept of " + acts, Desk.sheet(d), first);
        }
        HoleDesk e = Desk.of("(+ ? ?)");
        for (int i = 0; i < 50; i++) {
            Desk.seek(e, i % 2).put(1, i, 0);
            due("21: done and undone", e.undo(), 1);
        }
        due("21: the first one still", e.undo(), 0);
        due("5: one HOLE", e.nodes(), 1);
        due("6: of BIRTH 0", e.cursor(), 0);
        due("36: births went on", e.count(1), 54);
        HoleDesk f = Desk.of("5");
        f.put(12, 0, 0);
        f.go(5);
        f.seek(Desk.at(f, 1));
        f.shelve(0);
        f.offers();
        f.work(300);
        f.kind(true, 0, 0);
        f.box(3);
        due("36: those alone are acts", f.count(2), 2);
        due("21: the latest of those", f.undo(), 1);
        due("6: the cursor as ahead of it", f.cursor(), 1);
        due("36: the SHELF stays", f.count(5), 1);
        due("36: KINDS stay", f.count(0), 4);
    }

    static void offered() {
        StringBuilder program = new StringBuilder("?");
        for (int i = 25; i >= 0; i--) {
            program.insert(0, "(let " + (char) ('a' + i) + " 1 ").append(")");
        }
        HoleDesk d = Desk.of(program.toString());
        d.seek(d.hole(0, false));
        due("22: all letters, and all others", d.offers(), 40);
        for (int i = 0; i < 26; i++) {
            due("23: by letters", d.offer(i, 1), i);
        }
        due("23: the last NAME", d.offer(25, 0), 3);
        due("23: NUMBER", d.offer(26, 0), 1);
        due("23: no x", d.offer(26, 1), Desk.NONE);
        due("23: TRUTH", d.offer(27, 0), 2);
        for (int i = 28; i < 40; i++) {
            due("23: SORTS 4 to 15", d.offer(i, 0), i - 24);
        }
        due("23: none such", d.offer(40, 0), Desk.NONE);
        due("23: none such", d.offer(-1, 0), Desk.NONE);
        due("23: none such", d.offer(MAX, 1), Desk.NONE);
        due("23: none such", d.offer(MIN, 1), Desk.NONE);
        HoleDesk e = Desk.of("(def z 0 (let a 1 (pick ? (let m 1 ?) 1)))");
        Desk.seek(e, 0, 1, 0);
        due("22: bound there, those that are TRUTH or UNKNOWN", PromisesTest.offersOf(e),
            "3z 2 7 9 10 11 13 14 15");
        due("22: no NAME where none is bound", new HoleDesk().offer(0, 0), 1);
        HoleDesk f = Desk.of("(let a ? 1)");
        due("22: not where x of a LET is told", Desk.seek(f, 0).offer(0, 0), 1);
        HoleDesk g = Desk.of("(let a yes (let a 1 (+ ? 1)))");
        due("22: the nearest a is a WHOLE", Desk.seek(g, 1, 1, 0).offer(0, 0), 3);
        HoleDesk h = Desk.of("(let a 1 (let a yes (+ ? 1)))");
        due("22: the nearest a is a TRUTH", Desk.seek(h, 1, 1, 0).offer(0, 0), 1);
    }

    // ---- 5 the box

    static void boxPlaces() {
        HoleDesk d = Desk.of("5");
        int five = d.cursor();
        for (int n = 0; n <= 8; n++) {
            due("31: places", d.box(n), n);
            due("32: the first place", d.keep(0, five), n > 0 ? 1 : Desk.FINDING);
            due("32: the last place", d.keep(n - 1, five), n > 0 ? 1 : Desk.FINDING);
            due("32: BEYOND", d.keep(n, five), Desk.FINDING);
            due("33: the last place", d.boxed(n - 1, 1), n > 0 ? 1 : Desk.FINDING);
            due("33: BEYOND", d.boxed(n, 1), Desk.FINDING);
            due("37: BEYOND", d.finding(), 2);
            due("34: the last place", d.share(n - 1, n - 1), n > 0 ? 1 : Desk.FINDING);
            due("34: BEYOND", d.share(n, n - 1), Desk.FINDING);
            due("37: BEYOND", d.finding(), 2);
        }
        due("31: nine", d.box(9), Desk.BAD);
        due("33: it stays", d.boxed(7, 1), 1);
        due("31: fewer than none", d.box(-1), Desk.FINDING);
        due("37: SIZE", d.finding(), 5);
        due("33: it stays", d.boxed(7, 1), 1);
        due("31: as many again", d.box(8), 8);
        for (int i = 0; i < 8; i++) {
            due("33: what it had is gone", d.boxed(i, 1), Desk.FINDING);
            due("37: NOTHING", d.finding(), 1);
        }
        due("31: none", d.box(0), 0);
        due("31: eight", d.box(8), 8);
        due("33: nothing comes back", d.boxed(7, 1), Desk.FINDING);
        due("37: NOTHING", d.finding(), 1);
        due("38: NOTHING so often", d.findings(1), 9);
    }

    static int share(int a, int b) {
        HoleDesk d = Desk.of("(pair " + a + " " + b + ")");
        d.box(2);
        d.keep(0, Desk.at(d, 0));
        d.keep(1, Desk.at(d, 1));
        due("34: " + a + " by " + b, d.share(0, 1), 1);
        return d.asked();
    }

    static void shares() {
        due("35: cut", share(2, 3), 666);
        due("35: cut towards nought", share(-2, 3), -666);
        due("35: cut towards nought", share(2, -3), -666);
        due("35: cut towards nought", share(-2, -3), 666);
        due("35: cut to nought", share(1, 1001), 0);
        due("35: not yet nought", share(1, 1000), 1);
        due("35: cut to nought", share(-1, 1001), 0);
        due("35: by the smallest", share(1, MIN), 0);
        due("35: the smallest by itself", share(MIN, MIN), 1000);
        due("35: the last that does not wrap", share(2147483, 1), 2147483000);
        due("35: the first that wraps", share(2147484, 1), -2147483296);
        due("35: the last that does not wrap, below", share(-2147483, 1), -2147483000);
        due("35: the first that wraps, below", share(-2147484, 1), 2147483296);
        due("35: the largest wraps", share(MAX, 1), -1000);
        due("35: the smallest wraps", share(MIN, 1), 0);
        due("35: the smallest by -1", share(MIN, -1), 0);
        due("35: the largest by -1", share(MAX, -1), 1000);
    }

    static void keptNodes() {
        HoleDesk d = Desk.of("(pair 5 (let a 1 (+ a a)))");
        d.box(3);
        d.keep(0, Desk.at(d, 0));
        d.keep(1, Desk.at(d, 1, 1, 0));
        d.keep(2, Desk.top(d));
        Desk.seek(d, 0).write(MIN);
        Desk.seek(d, 1).rename(25);
        d.boxed(0, 1);
        due("32: n as it became", d.asked(), MIN);
        d.boxed(1, 3);
        due("32: x as it became", d.asked(), 25);
        d.undo();
        d.boxed(1, 3);
        due("32: x as it is again", d.asked(), 0);
        d.undo();
        d.boxed(0, 1);
        due("32: n as it is again", d.asked(), 5);
        Desk.seek(d, 1, 1, 0).write(7);
        Desk.seek(d).take();
        due("33: not in THE SHEET any more", d.boxed(0, 1), 1);
        due("35: n as it was", d.asked(), 5);
        due("33: not in THE SHEET any more", d.boxed(1, 3), 1);
        due("35: x as it was", d.asked(), 7);
        Desk.put(d, "8");
        due("33: that one, not what is there now", d.boxed(0, 1), 1);
        due("35: n as it was", d.asked(), 5);
        due("33: of another SORT", d.boxed(2, 1), Desk.FINDING);
        due("37: UNLIKE", d.finding(), 3);
        HoleDesk e = Desk.of("?");
        e.box(1);
        e.keep(0, 0);
        e.put(1, 3, 0);
        due("32: the HOLE, not what came there", e.boxed(0, 1), Desk.FINDING);
        due("37: UNLIKE", e.finding(), 3);
        due("32: instead", e.keep(0, 1), 1);
        due("33: instead", e.boxed(0, 1), 1);
        due("35: told", e.asked(), 3);
    }

    // ---- what is told

    static void counted() {
        HoleDesk d = Desk.of("(+ yes (pair z ?))");
        int[] want = {3, 9, 4, 3, 1, 0, Desk.NONE};
        for (int what = 0; what <= 6; what++) {
            due("36: " + what, d.count(what), want[what]);
        }
        due("36: 7", d.count(7), Desk.BAD);
        due("36: -1", d.count(-1), Desk.BAD);
        int[] outcomes = {0, 1, 2, 3, 4};
        String[] programs = {"1", "?", "(/ 1 0)", "(+ 1 (told 0 yes))", "(first (first ?))"};
        for (int i = 0; i < outcomes.length; i++) {
            HoleDesk e = Desk.of(programs[i]);
            due("24: OUTCOME", e.work(i == 4 ? 2 : 300), outcomes[i]);
            due("36: the latest OUTCOME", e.count(6), outcomes[i]);
            e.work(301);
            due("36: what was refused is none", e.count(6), outcomes[i]);
        }
        HoleDesk f = new HoleDesk();
        for (int i = 1; i <= 30; i++) {
            f.box(-i);
            due("38: so often", f.findings(5), i);
        }
        due("38: 1", f.findings(1), 0);
        due("38: 0", f.findings(0), Desk.BAD);
        due("38: 6", f.findings(6), Desk.BAD);
        due("37: the latest", f.finding(), 5);
        f.unwrap(0);
        f.box(9);
        due("37: those are none", f.finding(), 5);
        f.part(0, 0);
        due("37: the latest", f.finding(), 2);
    }

    static void digests() {
        HoleDesk d = Desk.of("(pair -2147483648 2147483647)");
        long h = 17;
        int[][] nodes = {{1, 12, -9, -9, 0}, {4, 1, MIN, -9, 0}, {5, 1, MAX, -9, 0}};
        for (int[] node : nodes) {
            for (int v : node) {
                h = 31 * h + v;
            }
        }
        h = 31 * h + 1;
        h = 31 * h + 6;
        due("39: numbers as they are, it wraps", d.digest(), h);
        HoleDesk e = withNodes(60);
        e.go(5);
        long all = 17;
        int at = Desk.top(e);
        for (int i = 0; i < 60; i++) {
            for (int what : new int[] {-1, 0, 1, 2, 6}) {
                all = 31 * all + (what < 0 ? at : e.told(at, what));
            }
            at = i < 59 ? e.part(at, 0) : at;
        }
        all = 31 * all + e.cursor();
        all = 31 * all + e.count(1);
        due("39: 60 NODES", e.digest(), all);
    }
}
