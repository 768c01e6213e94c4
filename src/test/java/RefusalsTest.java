import java.util.ArrayList;
import java.util.List;
import java.util.function.Supplier;
import java.util.function.ToIntFunction;

/**
 * Refusals, each alone and two at once in the order that the document gives, and that what is refused
 * changes nothing but finding(), findings(): a twin that was not asked tells and does the same after it.
 */
public final class RefusalsTest {
    static final int MIN = Integer.MIN_VALUE, MAX = Integer.MAX_VALUE;
    static final int NOTHING = 1, BEYOND = 2, UNLIKE = 3, NOUGHT = 4, SIZE = 5;
    static final int BAD = HoleDesk.BAD, FULL = HoleDesk.FULL, FINDING = HoleDesk.FINDING;
    static final int STATE = HoleDesk.STATE, CAUGHT = HoleDesk.CAUGHT, NONE = HoleDesk.NONE;

    public static void main(String[] args) {
        numbers();
        kinds();
        looking();
        going();
        putting();
        taking();
        writing();
        renaming();
        moving();
        shelving();
        offering();
        working();
        goingOn();
        boxes();
        telling();
        Desk.end();
    }

    static void numbers() {
        Desk.due("ANSWERS: BAD", HoleDesk.BAD, -1);
        Desk.due("ANSWERS: STATE", HoleDesk.STATE, -4);
        Desk.due("ANSWERS: FULL", HoleDesk.FULL, -2);
        Desk.due("ANSWERS: CAUGHT", HoleDesk.CAUGHT, -6);
        Desk.due("ANSWERS: FINDING", HoleDesk.FINDING, -3);
        Desk.due("ANSWERS: NONE", HoleDesk.NONE, -9);
    }

    // ---- what a desk tells

    /** What calls tell that change nothing. */
    static List<Long> told(HoleDesk d) {
        List<Long> all = new ArrayList<>();
        all.add(d.digest());
        all.add((long) d.nodes());
        all.add((long) d.cursor());
        for (int what = 0; what <= 6; what++) {
            all.add((long) d.count(what));
        }
        all.add((long) d.kindOf(d.count(0) - 1, 3));
        all.add((long) d.steps());
        all.add((long) d.where());
        all.add((long) d.asked());
        int bytes = d.value(-1);
        all.add((long) bytes);
        for (int i = 0; i < Math.min(bytes, 40); i++) {
            all.add((long) d.value(i));
        }
        all.add((long) d.left(0));
        all.add((long) d.seen(0, 0, 0));
        all.add((long) d.offers());
        return all;
    }

    /** What a desk does next: its box, its latest value gone on with, its shelf, what it undoes. */
    static List<Long> done(HoleDesk d) {
        List<Long> all = new ArrayList<>();
        for (int place = 0; place < 4; place++) {
            all.add((long) d.boxed(place, 1));
            all.add((long) d.boxed(place, 3));
            all.add((long) d.asked());
        }
        all.add((long) d.boxed(7, 1));
        all.add((long) d.resume(300));
        all.add((long) d.steps());
        all.add((long) d.value(-1));
        all.add((long) d.kind(true, 2, 2));
        all.add((long) d.undo());
        all.add(d.digest());
        all.add((long) d.undo());
        all.add(d.digest());
        all.add((long) d.go(4));
        for (int place = 0; place < 6; place++) {
            all.add((long) d.fill(place));
            all.add(d.digest());
            all.add((long) d.undo());
        }
        all.add((long) d.put(14, 0, 0));
        all.add(d.digest());
        return all;
    }

    static List<Integer> findings(HoleDesk d) {
        List<Integer> all = new ArrayList<>();
        for (int f = 1; f <= 5; f++) {
            all.add(d.findings(f));
        }
        all.add(d.finding());
        return all;
    }

    // ---- a refusal and its twin

    static void refused(String what, Supplier<HoleDesk> maker, int answer, ToIntFunction<HoleDesk> call) {
        refused(what, maker, answer, 0, call);
    }

    static void finds(String what, Supplier<HoleDesk> maker, int finding, ToIntFunction<HoleDesk> call) {
        refused(what, maker, FINDING, finding, call);
    }

    private static void refused(String what, Supplier<HoleDesk> maker, int answer, int finding,
            ToIntFunction<HoleDesk> call) {
        HoleDesk d = maker.get();
        HoleDesk twin = maker.get();
        Desk.due(what, call.applyAsInt(d), answer);
        List<Integer> due = findings(twin);
        if (finding != 0) {
            due.set(finding - 1, due.get(finding - 1) + 1);
            due.set(5, finding);
        }
        Desk.due(what + ": findings", findings(d).toString(), due.toString());
        Desk.due(what + ": what is told stays", told(d).toString(), told(twin).toString());
        Desk.due(what + ": what comes next stays", done(d).toString(), done(twin).toString());
    }

    // ---- desks

    /**
     * A desk in the midst of everything: kinds 3, 4, an act undone, two places of the shelf filled, a box of 4 places
     * (a NUMBER -7, a NAME a, a SUM, nothing), a finding, a value left on a hole that was filled since by "(+ a ?)".
     * Its sheet: (let a -7 (pair (pair (+ a ?) (def b 0 (pair b z))) (pair yes (let c ? c)))).
     */
    static HoleDesk busy() {
        HoleDesk d = Desk.of("(let a -7 (pair (pair (+ a ?) (def b 0 (pair b z))) (pair yes (let c ? c))))");
        d.kind(false, 1, 1);
        d.kind(true, 1, 2);
        Desk.seek(d, 1, 0, 0).shelve(0);
        Desk.seek(d, 1, 0, 0, 0).shelve(4);
        d.box(4);
        d.keep(0, Desk.at(d, 0));
        d.keep(1, Desk.at(d, 1, 0, 0, 0));
        d.keep(2, Desk.at(d, 1, 0, 0));
        d.boxed(0, 1);
        d.boxed(3, 1);
        d.write(25);
        d.undo();
        d.work(300);
        Desk.seek(d, 1, 0, 0, 1).fill(0);
        d.go(5);
        return d;
    }

    static Supplier<HoleDesk> busyAt(int... path) {
        return () -> Desk.seek(busy(), path);
    }

    static Supplier<HoleDesk> of(String program, int... path) {
        return () -> Desk.seek(Desk.of(program), path);
    }

    /** 60 NODES: 57 FIRST, a PAIR of a hole and 5; the cursor on a part of that. */
    static Supplier<HoleDesk> sixty(int part) {
        return () -> {
            HoleDesk d = new HoleDesk();
            for (int i = 0; i < 57; i++) {
                d.put(13, 0, 0);
            }
            d.go(4);
            d.put(12, 0, 0);
            int pair = d.cursor();
            d.seek(d.part(pair, 1));
            d.put(1, 5, 0);
            d.shelve(3);
            d.seek(d.part(pair, part));
            Desk.due("60 nodes", d.nodes(), 60);
            return d;
        };
    }

    /** A program that ends as told when so many births were given out; its cursor where a path leads. */
    static Supplier<HoleDesk> births(int births, String program, int... path) {
        return () -> {
            HoleDesk first = Desk.of(program);
            HoleDesk d = PromisesTest.withBirths(births - first.count(1) + 1);
            Desk.put(d, program);
            Desk.due("births", d.count(1), births);
            return Desk.seek(d, path);
        };
    }

    /** 40 KINDS: 3 .. 12 of growing SIZE up to 21, others of SIZE 3 and 5. */
    static HoleDesk fullKinds() {
        HoleDesk d = new HoleDesk();
        int k = 1;
        for (int i = 0; i < 10; i++) {
            k = d.kind(true, 1, k);
        }
        for (int a = 0; a < 3 && d.count(0) < 40; a++) {
            for (int b = 0; b <= 4 && d.count(0) < 40; b++) {
                d.kind(false, a, b);
                d.kind(true, b, a);
            }
        }
        Desk.due("40 kinds", d.count(0), 40);
        Desk.due("a SIZE of 21", d.kindOf(k, 3), 21);
        return d;
    }

    static HoleDesk fresh() {
        return new HoleDesk();
    }

    // ---- call by call

    static void kinds() {
        for (int no : new int[] {-1, 5, MIN, MAX}) {
            refused("2: BAD a " + no, RefusalsTest::busy, BAD, d -> d.kind(false, no, 0));
            refused("2: BAD b " + no, RefusalsTest::busy, BAD, d -> d.kind(true, 0, no));
            refused("3: BAD kind " + no, RefusalsTest::busy, BAD, d -> d.kindOf(no, 0));
            refused("4: BAD a " + no, RefusalsTest::busy, BAD, d -> d.meet(no, 0));
            refused("4: BAD b " + no, RefusalsTest::busy, BAD, d -> d.meet(0, no));
        }
        for (int no : new int[] {-1, 4, MIN, MAX}) {
            refused("3: BAD what " + no, RefusalsTest::busy, BAD, d -> d.kindOf(4, no));
        }
        refused("2: FULL", RefusalsTest::fullKinds, FULL, d -> d.kind(false, 3, 3));
        refused("2: BAD a ahead of FULL", RefusalsTest::fullKinds, BAD, d -> d.kind(false, 40, 3));
        refused("2: BAD b ahead of FULL", RefusalsTest::fullKinds, BAD, d -> d.kind(true, 3, -1));
        refused("2: BAD SIZE ahead of FULL", RefusalsTest::fullKinds, BAD, d -> d.kind(false, 12, 12));
    }

    static void looking() {
        int births = busy().count(1);
        for (int no : new int[] {-1, 0, births, MIN, MAX}) {
            refused("7: BAD birth " + no, RefusalsTest::busy, BAD, d -> d.told(no, 0));
            refused("8: BAD ahead of BEYOND, birth " + no, RefusalsTest::busy, BAD, d -> d.part(no, -1));
            refused("9: BAD birth " + no, RefusalsTest::busy, BAD, d -> d.sign(no, false, 0));
            refused("12: BAD birth " + no, RefusalsTest::busy, BAD, d -> d.seek(no));
        }
        for (int no : new int[] {-1, 7, MIN, MAX}) {
            refused("7: BAD what " + no, RefusalsTest::busy, BAD, d -> d.told(Desk.top(d), no));
        }
        for (int no : new int[] {-1, 2, MIN, MAX}) {
            finds("8: BEYOND " + no, RefusalsTest::busy, BEYOND, d -> d.part(d.cursor(), no));
        }
        finds("8: BEYOND, of a node without parts", busyAt(0), BEYOND, d -> d.part(d.cursor(), 0));
        refused("9: BAD i", RefusalsTest::busy, BAD, d -> d.sign(d.cursor(), false, -1));
        refused("9: BAD i", RefusalsTest::busy, BAD, d -> d.sign(d.cursor(), false, MIN));
        refused("9: BAD i, asked FREELY", RefusalsTest::busy, BAD, d -> d.sign(d.cursor(), true, -1));
    }

    static void going() {
        for (int no : new int[] {-1, 6, MIN, MAX}) {
            refused("11: BAD way " + no, RefusalsTest::busy, BAD, d -> d.go(no));
            refused("11: BAD way where none is " + no, RefusalsTest::fresh, BAD, d -> d.go(no));
        }
        for (int way = 0; way <= 4; way++) {
            int there = way;
            refused("11: STATE " + way, RefusalsTest::fresh, STATE, d -> d.go(there));
        }
        refused("11: STATE up", RefusalsTest::busy, STATE, d -> d.go(0));
        refused("11: STATE next, of the top", RefusalsTest::busy, STATE, d -> d.go(2));
        refused("11: STATE ahead, of the top", RefusalsTest::busy, STATE, d -> d.go(3));
        refused("11: STATE first part", busyAt(0), STATE, d -> d.go(1));
        refused("11: STATE ahead", busyAt(0), STATE, d -> d.go(3));
        refused("11: STATE next", busyAt(1), STATE, d -> d.go(2));
        refused("11: STATE hole", busyAt(1, 1, 1, 1), STATE, d -> d.go(4));
        refused("11: STATE hole, on the last one", busyAt(1, 1, 1, 0), STATE, d -> d.go(4));
    }

    static void putting() {
        for (int no : new int[] {-1, 16, MIN, MAX}) {
            refused("13: BAD sort " + no, RefusalsTest::busy, BAD, d -> d.put(no, 0, 0));
            refused("13: BAD sort on a hole " + no, RefusalsTest::fresh, BAD, d -> d.put(no, 0, 0));
            refused("13: BAD sort ahead of FULL " + no, sixty(0), BAD, d -> d.put(no, 0, 0));
        }
        for (int no : new int[] {-1, 26, MIN, MAX}) {
            refused("13: BAD x of a NAME " + no, RefusalsTest::fresh, BAD, d -> d.put(3, no, 0));
            refused("13: BAD x ahead of STATE " + no, busyAt(0), BAD, d -> d.put(3, no, 0));
            refused("13: BAD x of a DEF " + no, RefusalsTest::busy, BAD, d -> d.put(8, no, 0));
            refused("13: BAD x of a LET " + no, RefusalsTest::busy, BAD, d -> d.put(10, no, 0));
            refused("13: BAD x ahead of FULL " + no, sixty(0), BAD, d -> d.put(10, no, 0));
        }
        for (int no : new int[] {-1, 2, MIN, MAX}) {
            refused("13: BAD truth " + no, RefusalsTest::fresh, BAD, d -> d.put(2, no, 0));
            refused("13: BAD truth ahead of STATE " + no, busyAt(0), BAD, d -> d.put(2, no, 0));
        }
        for (int no : new int[] {-1, 5, MIN, MAX}) {
            refused("13: BAD k of a DEF " + no, RefusalsTest::busy, BAD, d -> d.put(8, 0, no));
            refused("13: BAD k of a TOLD " + no, RefusalsTest::busy, BAD, d -> d.put(15, 0, no));
            refused("13: BAD k ahead of FULL " + no, sixty(1), BAD, d -> d.put(15, 0, no));
        }
        for (int sort = 1; sort <= 3; sort++) {
            int leaf = sort;
            refused("13: STATE of sort " + sort, RefusalsTest::busy, STATE, d -> d.put(leaf, 1, 0));
            refused("13: STATE ahead of FULL nodes", sixty(1), STATE, d -> d.put(leaf, 1, 0));
            refused("13: STATE ahead of FULL births", births(3000, "5"), STATE, d -> d.put(leaf, 1, 0));
            refused("13: FULL births", births(3000, "(+ 1 ?)", 1), FULL, d -> d.put(leaf, 1, 0));
        }
        refused("13: STATE of sort 0", RefusalsTest::busy, STATE, d -> d.put(0, 0, 0));
        refused("13: STATE of sort 0 on a hole", RefusalsTest::fresh, STATE, d -> d.put(0, -1, -1));
        refused("13: STATE of sort 0 ahead of FULL", sixty(1), STATE, d -> d.put(0, 0, 0));
        refused("13: STATE of sort 0 ahead of FULL", births(3000, "(+ 1 ?)", 1), STATE, d -> d.put(0, 0, 0));
        for (int sort = 4; sort <= 15; sort++) {
            int act = sort;
            refused("13: FULL nodes, sort " + sort, sixty(0), FULL, d -> d.put(act, 0, 0));
            refused("13: FULL nodes around, sort " + sort, sixty(1), FULL, d -> d.put(act, 0, 0));
            refused("13: FULL births, sort " + sort, births(3000, "(+ 1 ?)", 1), FULL, d -> d.put(act, 0, 0));
            refused("13: FULL births around, sort " + sort, births(3000, "(+ 1 ?)"), FULL, d -> d.put(act, 0, 0));
        }
    }

    static void taking() {
        refused("14: STATE", RefusalsTest::fresh, STATE, HoleDesk::take);
        refused("14: STATE", busyAt(1, 1, 1, 0), STATE, HoleDesk::take);
        refused("14: STATE ahead of FULL", births(3000, "(+ 1 ?)", 1), STATE, HoleDesk::take);
        refused("14: FULL", births(3000, "(+ 1 ?)", 0), FULL, HoleDesk::take);
        refused("15: STATE", RefusalsTest::fresh, STATE, d -> d.unwrap(0));
        refused("15: STATE", busyAt(0), STATE, d -> d.unwrap(0));
        for (int no : new int[] {-1, 2, MIN, MAX}) {
            finds("15: BEYOND " + no, RefusalsTest::busy, BEYOND, d -> d.unwrap(no));
            refused("15: STATE ahead of BEYOND " + no, busyAt(0), STATE, d -> d.unwrap(no));
        }
        finds("15: BEYOND, of one part", of("(first ?)"), BEYOND, d -> d.unwrap(1));
        finds("15: BEYOND, of three", of("(pick ? ? ?)"), BEYOND, d -> d.unwrap(3));
    }

    static void writing() {
        refused("16: STATE on a hole", RefusalsTest::fresh, STATE, d -> d.write(0));
        refused("16: STATE on a LET", RefusalsTest::busy, STATE, d -> d.write(1));
        refused("16: STATE ahead of BAD", RefusalsTest::busy, STATE, d -> d.write(26));
        refused("16: STATE ahead of BAD on a DEF", busyAt(1, 0, 1), STATE, d -> d.write(MIN));
        refused("16: STATE ahead of BAD on a SUM", busyAt(1, 0, 0), STATE, d -> d.write(-1));
        for (int no : new int[] {-1, 26, MIN, MAX}) {
            refused("16: BAD x " + no, busyAt(1, 0, 0, 0), BAD, d -> d.write(no));
        }
        for (int no : new int[] {-1, 2, MIN, MAX}) {
            refused("16: BAD truth " + no, busyAt(1, 1, 0), BAD, d -> d.write(no));
        }
    }

    static void renaming() {
        for (int no : new int[] {-1, 26, MIN, MAX}) {
            refused("17: BAD " + no, RefusalsTest::busy, BAD, d -> d.rename(no));
            refused("17: BAD ahead of STATE " + no, busyAt(0), BAD, d -> d.rename(no));
        }
        refused("17: STATE", busyAt(0), STATE, d -> d.rename(1));
        refused("17: STATE on a NAME", busyAt(1, 0, 0, 0), STATE, d -> d.rename(1));
        refused("17: STATE on a hole", RefusalsTest::fresh, STATE, d -> d.rename(1));
        refused("17: CAUGHT, a NAME not bound", RefusalsTest::busy, CAUGHT, d -> d.rename(25));
        refused("17: CAUGHT, a NAME not bound", busyAt(1, 0, 1), CAUGHT, d -> d.rename(25));
        refused("17: CAUGHT, by one within", of("(let a 1 (def b 0 a))"), CAUGHT, d -> d.rename(1));
        refused("17: CAUGHT, one bound outside", of("(let a 1 (def b 0 a))", 1), CAUGHT, d -> d.rename(0));
    }

    static void moving() {
        String program = "(let a 1 (pair (pair a ?) (let a 2 (pair ? (+ a b)))))";
        int births = Desk.of(program).count(1);
        for (int no : new int[] {-1, 0, births, MIN, MAX}) {
            refused("18: BAD " + no, of(program, 0), BAD, d -> d.move(no));
        }
        refused("18: STATE, no hole", of(program, 0), STATE, d -> d.move(Desk.at(d, 1)));
        refused("18: STATE, the cursor is on it", of(program, 1, 0, 1), STATE, d -> d.move(d.cursor()));
        refused("18: STATE, it stands in it", of(program, 1, 0), STATE, d -> d.move(Desk.at(d, 1, 0, 1)));
        refused("18: STATE, it stands in it", of(program), STATE, d -> d.move(Desk.at(d, 1, 1, 1, 0)));
        refused("18: CAUGHT, bound otherwise", of(program, 1, 0, 0), CAUGHT, d -> d.move(Desk.at(d, 1, 1, 1, 0)));
        refused("18: CAUGHT, bound otherwise", of(program, 1, 1, 1, 1), CAUGHT, d -> d.move(Desk.at(d, 1, 0, 1)));
        refused("18: CAUGHT, by none", of("(pair ? (def a 0 a))", 1, 0), CAUGHT, d -> d.move(Desk.at(d, 0)));
        refused("18: CAUGHT, was not bound", of("(pair a (def a 0 ?))", 0), CAUGHT, d -> d.move(Desk.at(d, 1, 0)));
        refused("18: STATE ahead of CAUGHT", of(program, 1, 0, 0), STATE, d -> d.move(Desk.at(d, 1, 1, 1)));
        refused("18: FULL", births(3000, program, 0), FULL, d -> d.move(Desk.at(d, 1, 0, 1)));
        refused("18: FULL ahead of CAUGHT", births(3000, program, 1, 0, 0), FULL, d -> d.move(Desk.at(d, 1, 1, 1, 0)));
        refused("18: STATE ahead of FULL", births(3000, program, 1, 0), STATE, d -> d.move(Desk.at(d, 1, 0, 1)));
        refused("18: BAD ahead of FULL", births(3000, program, 0), BAD, d -> d.move(3000));
    }

    static void shelving() {
        for (int no : new int[] {-1, 6, MIN, MAX}) {
            refused("19: BAD " + no, RefusalsTest::busy, BAD, d -> d.shelve(no));
            refused("20: BAD " + no, busyAt(1, 1, 1, 0), BAD, d -> d.fill(no));
            refused("20: BAD ahead of STATE " + no, RefusalsTest::busy, BAD, d -> d.fill(no));
            refused("20: BAD ahead of FULL " + no, births(3000, "?"), BAD, d -> d.fill(no));
        }
        refused("20: STATE", RefusalsTest::busy, STATE, d -> d.fill(0));
        refused("20: STATE ahead of NOTHING", RefusalsTest::busy, STATE, d -> d.fill(1));
        refused("20: STATE ahead of FULL", births(3000, "5"), STATE, d -> d.fill(0));
        for (int empty : new int[] {1, 2, 3, 5}) {
            finds("20: NOTHING in place " + empty, busyAt(1, 1, 1, 0), NOTHING, d -> d.fill(empty));
        }
        finds("20: NOTHING, where nothing more has room", sixty(0), NOTHING, d -> d.fill(0));
        finds("20: NOTHING, without births", births(3000, "?"), NOTHING, d -> d.fill(1));
        refused("20: FULL births", births(3000, "?"), FULL, d -> d.fill(0));
        refused("20: FULL nodes", RefusalsTest::nodesLacking, FULL, d -> d.fill(5));
        refused("21: STATE", RefusalsTest::fresh, STATE, HoleDesk::undo);
        refused("21: STATE, all undone", RefusalsTest::allUndone, STATE, HoleDesk::undo);
    }

    /** 60 NODES, the cursor on a hole, two nodes in place 5. */
    static HoleDesk nodesLacking() {
        HoleDesk d = sixty(0).get();
        d.go(0);
        d.unwrap(0);
        d.go(0);
        d.shelve(5);
        Desk.due("two nodes", d.count(5), 3);
        d.undo();
        d.go(4);
        return d;
    }

    static HoleDesk allUndone() {
        HoleDesk d = Desk.of("(+ 1 ?)");
        d.undo();
        d.undo();
        return d;
    }

    static void offering() {
        refused("22: STATE", RefusalsTest::busy, STATE, HoleDesk::offers);
        refused("23: STATE", RefusalsTest::busy, STATE, d -> d.offer(0, 0));
        refused("23: STATE, none such", RefusalsTest::busy, STATE, d -> d.offer(99, 1));
        for (int no : new int[] {-1, 2, MIN, MAX}) {
            refused("23: BAD " + no, busyAt(1, 1, 1, 0), BAD, d -> d.offer(0, no));
            refused("23: BAD ahead of STATE " + no, RefusalsTest::busy, BAD, d -> d.offer(0, no));
            refused("23: BAD, none such " + no, busyAt(1, 1, 1, 0), BAD, d -> d.offer(-1, no));
        }
    }

    static void working() {
        for (int no : new int[] {-1, 301, MIN, MAX}) {
            refused("24: BAD " + no, RefusalsTest::busy, BAD, d -> d.work(no));
            refused("24: BAD, a new object " + no, RefusalsTest::fresh, BAD, d -> d.work(no));
            refused("25: BAD " + no, RefusalsTest::busy, BAD, d -> d.resume(no));
            refused("25: BAD ahead of STATE " + no, RefusalsTest::fresh, BAD, d -> d.resume(no));
        }
        for (int no : new int[] {-1, 26, MIN, MAX}) {
            refused("30: BAD x " + no, RefusalsTest::busy, BAD, d -> d.seen(0, no, 0));
            refused("30: BAD x, no such hole " + no, RefusalsTest::busy, BAD, d -> d.seen(-1, no, -2));
            refused("30: BAD x, nothing worked " + no, RefusalsTest::fresh, BAD, d -> d.seen(0, no, 0));
        }
    }

    static Supplier<HoleDesk> worked(String program, int n, int outcome) {
        return () -> {
            HoleDesk d = Desk.of(program);
            Desk.due(program, d.work(n), outcome);
            return d;
        };
    }

    /** Something left, then an act. */
    static Supplier<HoleDesk> leftThen(ToIntFunction<HoleDesk> act, int... path) {
        return () -> {
            HoleDesk d = Desk.of("(let a 1 (+ a ?))");
            Desk.seek(d, 0).shelve(0);
            Desk.due("left", d.work(300), 1);
            Desk.due("an act", act.applyAsInt(Desk.seek(d, path)) >= 0 ? 1 : 0, 1);
            return d;
        };
    }

    static void goingOn() {
        refused("25: STATE, nothing was worked", RefusalsTest::fresh, STATE, d -> d.resume(300));
        refused("25: STATE, REFUSED", worked("(/ 1 0)", 300, 2), STATE, d -> d.resume(300));
        refused("25: STATE, CLASH", worked("(first (told 0 1))", 300, 3), STATE, d -> d.resume(300));
        refused("25: STATE, SPENT", worked("(+ 1 2)", 2, 4), STATE, d -> d.resume(300));
        refused("25: STATE, put", leftThen(d -> d.put(12, 0, 0), 0), STATE, d -> d.resume(300));
        refused("25: STATE, take", leftThen(HoleDesk::take, 0), STATE, d -> d.resume(300));
        refused("25: STATE, unwrap", leftThen(d -> d.unwrap(1)), STATE, d -> d.resume(300));
        refused("25: STATE, write", leftThen(d -> d.write(1), 0), STATE, d -> d.resume(300));
        refused("25: STATE, rename", leftThen(d -> d.rename(0)), STATE, d -> d.resume(300));
        refused("25: STATE, move", leftThen(d -> d.move(Desk.at(d, 1, 1)), 0), STATE, d -> d.resume(300));
        refused("25: STATE, undo", leftThen(HoleDesk::undo), STATE, d -> d.resume(300));
        refused("25: STATE, undo of a fill", leftThen(RefusalsTest::fillAndUndo, 1, 1), STATE, d -> d.resume(300));
        refused("25: STATE, another REASON", RefusalsTest::otherReason, STATE, d -> d.resume(300));
        refused("25: STATE, no REASON any more", RefusalsTest::noReasonAnyMore, STATE, d -> d.resume(300));
        refused("25: BAD ahead of STATE", leftThen(HoleDesk::undo), BAD, d -> d.resume(301));
    }

    static int fillAndUndo(HoleDesk d) {
        return d.fill(0) < 0 ? -1 : d.undo();
    }

    /** A NAME whose LET was given a truth since, and is asked for WHOLE. */
    static HoleDesk otherReason() {
        HoleDesk d = Desk.of("yes");
        d.shelve(1);
        d.take();
        Desk.put(d, "(let a ? (+ a 1))");
        Desk.due("left", d.work(300), 1);
        Desk.seek(d, 0).fill(1);
        Desk.due("a reason", d.told(Desk.at(d, 1, 0), 6), 6);
        return d;
    }

    /** A PAIR that is in no FRAME any more, as its SIZE would be above 40 since. */
    static HoleDesk noReasonAnyMore() {
        HoleDesk d = Desk.of("(pair ? ?)");
        int k = 1;
        for (int i = 0; i < 18; i++) {
            k = d.kind(true, 1, k);
        }
        d.shelve(1);
        d.take();
        Desk.put(d, "(+ (pair ? (told " + k + " ?)) 1)");
        Desk.due("left", d.work(300), 1);
        Desk.due("asked for WHOLE", d.told(Desk.at(d, 0), 6), 6);
        Desk.seek(d, 0, 0).fill(1);
        Desk.due("UNKNOWN", d.told(Desk.at(d, 0), 6), 0);
        Desk.due("no FRAME at all", d.count(3), 0);
        return d;
    }

    static void boxes() {
        refused("31: BAD", RefusalsTest::busy, BAD, d -> d.box(9));
        refused("31: BAD", RefusalsTest::busy, BAD, d -> d.box(MAX));
        finds("31: SIZE", RefusalsTest::busy, SIZE, d -> d.box(-1));
        finds("31: SIZE", RefusalsTest::busy, SIZE, d -> d.box(MIN));
        int births = busy().count(1);
        for (int no : new int[] {-1, 0, births, MIN, MAX}) {
            refused("32: BAD " + no, RefusalsTest::busy, BAD, d -> d.keep(0, no));
            refused("32: BAD ahead of BEYOND " + no, RefusalsTest::busy, BAD, d -> d.keep(4, no));
        }
        for (int no : new int[] {-1, 4, MIN, MAX}) {
            finds("32: BEYOND " + no, RefusalsTest::busy, BEYOND, d -> d.keep(no, d.cursor()));
            finds("33: BEYOND " + no, RefusalsTest::busy, BEYOND, d -> d.boxed(no, 1));
            refused("33: BAD ahead of BEYOND " + no, RefusalsTest::busy, BAD, d -> d.boxed(no, 2));
            finds("34: BEYOND i " + no, RefusalsTest::busy, BEYOND, d -> d.share(no, 0));
            finds("34: BEYOND j " + no, RefusalsTest::busy, BEYOND, d -> d.share(0, no));
            finds("34: BEYOND j ahead of NOTHING i " + no, RefusalsTest::busy, BEYOND, d -> d.share(3, no));
            finds("34: BEYOND j ahead of UNLIKE i " + no, RefusalsTest::busy, BEYOND, d -> d.share(1, no));
            finds("34: BEYOND i ahead of NOTHING j " + no, RefusalsTest::busy, BEYOND, d -> d.share(no, 3));
            finds("34: BEYOND i ahead of UNLIKE j " + no, RefusalsTest::busy, BEYOND, d -> d.share(no, 2));
        }
        finds("32: BEYOND, no places", RefusalsTest::fresh, BEYOND, d -> d.keep(0, 0));
        finds("33: BEYOND, no places", RefusalsTest::fresh, BEYOND, d -> d.boxed(0, 1));
        finds("34: BEYOND, no places", RefusalsTest::fresh, BEYOND, d -> d.share(0, 0));
        for (int no : new int[] {-1, 0, 2, 4, MIN, MAX}) {
            refused("33: BAD sort " + no, RefusalsTest::busy, BAD, d -> d.boxed(0, no));
            refused("33: BAD ahead of NOTHING " + no, RefusalsTest::busy, BAD, d -> d.boxed(3, no));
            refused("33: BAD ahead of UNLIKE " + no, RefusalsTest::busy, BAD, d -> d.boxed(2, no));
        }
        finds("33: NOTHING", RefusalsTest::busy, NOTHING, d -> d.boxed(3, 1));
        finds("33: NOTHING", RefusalsTest::busy, NOTHING, d -> d.boxed(3, 3));
        finds("33: UNLIKE", RefusalsTest::busy, UNLIKE, d -> d.boxed(0, 3));
        finds("33: UNLIKE", RefusalsTest::busy, UNLIKE, d -> d.boxed(1, 1));
        finds("33: UNLIKE", RefusalsTest::busy, UNLIKE, d -> d.boxed(2, 1));
        finds("33: UNLIKE", RefusalsTest::busy, UNLIKE, d -> d.boxed(2, 3));
        sharing();
    }

    /** busy() with 0 in place 2: -7, a NAME, 0, nothing. */
    static HoleDesk withNought() {
        HoleDesk d = busy();
        d.seek(Desk.at(d, 1, 1, 1, 0));
        d.put(1, 0, 0);
        d.keep(2, d.cursor());
        return d;
    }

    static void sharing() {
        finds("34: NOTHING i", RefusalsTest::busy, NOTHING, d -> d.share(3, 0));
        finds("34: NOTHING j", RefusalsTest::busy, NOTHING, d -> d.share(0, 3));
        finds("34: NOTHING both", RefusalsTest::busy, NOTHING, d -> d.share(3, 3));
        finds("34: NOTHING i ahead of UNLIKE j", RefusalsTest::busy, NOTHING, d -> d.share(3, 1));
        finds("34: NOTHING j ahead of UNLIKE i", RefusalsTest::busy, NOTHING, d -> d.share(1, 3));
        finds("34: UNLIKE i", RefusalsTest::busy, UNLIKE, d -> d.share(1, 0));
        finds("34: UNLIKE j", RefusalsTest::busy, UNLIKE, d -> d.share(0, 1));
        finds("34: UNLIKE both", RefusalsTest::busy, UNLIKE, d -> d.share(1, 2));
        finds("34: NOUGHT", RefusalsTest::withNought, NOUGHT, d -> d.share(0, 2));
        finds("34: NOUGHT, nought of nought", RefusalsTest::withNought, NOUGHT, d -> d.share(2, 2));
        finds("34: NOTHING i ahead of NOUGHT", RefusalsTest::withNought, NOTHING, d -> d.share(3, 2));
        finds("34: UNLIKE i ahead of NOUGHT", RefusalsTest::withNought, UNLIKE, d -> d.share(1, 2));
        finds("34: BEYOND i ahead of NOUGHT", RefusalsTest::withNought, BEYOND, d -> d.share(4, 2));
    }

    static void telling() {
        for (int no : new int[] {-1, 7, MIN, MAX}) {
            refused("36: BAD " + no, RefusalsTest::busy, BAD, d -> d.count(no));
        }
        for (int no : new int[] {0, -1, 6, MIN, MAX}) {
            refused("38: BAD " + no, RefusalsTest::busy, BAD, d -> d.findings(no));
        }
    }
}
