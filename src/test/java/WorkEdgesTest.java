/**
 * The edges of working: STEPS, the 61st begun within one another, what wraps, what is LEFT, 400 bytes;
 * a test on both sides of each.
 */
public final class WorkEdgesTest {
    static final int MIN = Integer.MIN_VALUE, MAX = Integer.MAX_VALUE;

    static void due(String what, long got, long want) {
        Desk.due(what, got, want);
    }

    static void due(String what, String got, String want) {
        Desk.due(what, got, want);
    }

    public static void main(String[] args) {
        ahead();
        wholes();
        notAsTold();
        steps();
        stepsOfGoingOn();
        withinWorking();
        withinGoingOn();
        beginningWithinGoingOn();
        stoppedInGoingOn();
        outcomes();
        frames();
        binding();
        seeing();
        bytes();
        bytesAfterEnding();
        bytesOfHoles();
        bytesSeen();
        filledHoles();
        filledInTurn();
        staying();
        Desk.end();
    }

    static String around(String ahead, int times, String text) {
        return (ahead + " ").repeat(times) + text + ")".repeat(times);
    }

    static void outcome(String program, int n, int outcome, int steps) {
        HoleDesk d = Desk.of(program);
        due("24: " + n + " STEPS of " + program, d.work(n), outcome);
        due("26: " + n + " STEPS of " + program, d.steps(), steps);
    }

    static HoleDesk value(String program, int outcome, String value) {
        HoleDesk d = Desk.of(program);
        due("24: " + program, d.work(300), outcome);
        due("28: " + program, Desk.value(d), value);
        return d;
    }

    static void stops(String program, int outcome, int... path) {
        HoleDesk d = value(program, outcome, "none");
        due("27: where in " + program, d.where(), Desk.at(d, path));
    }

    static void ahead() {
        HoleDesk d = new HoleDesk();
        due("26: before", d.steps(), 0);
        due("27: before", d.where(), Desk.NONE);
        due("28: before", d.value(-1), Desk.NONE);
        due("28: before", d.value(0), Desk.NONE);
        due("29: before", d.left(0), Desk.NONE);
        due("30: before", d.seen(0, 0, -1), Desk.NONE);
        due("36: before", d.count(6), Desk.NONE);
        due("25: before", d.resume(0), Desk.STATE);
    }

    // ---- acts

    static void wholes() {
        value("(+ 2147483646 1)", 0, "2147483647");
        value("(+ 2147483647 1)", 0, "-2147483648");
        value("(+ -2147483647 -1)", 0, "-2147483648");
        value("(+ -2147483648 -1)", 0, "2147483647");
        value("(+ -2147483648 -2147483648)", 0, "0");
        value("(* 1073741823 2)", 0, "2147483646");
        value("(* 1073741824 2)", 0, "-2147483648");
        value("(* 2147483647 2147483647)", 0, "1");
        value("(* -2147483648 -1)", 0, "-2147483648");
        value("(/ -2147483648 -1)", 0, "-2147483648");
        value("(/ -2147483648 1)", 0, "-2147483648");
        value("(/ 7 2)", 0, "3");
        value("(/ -7 2)", 0, "-3");
        value("(/ 7 -2)", 0, "-3");
        value("(/ -7 -2)", 0, "3");
        value("(/ 1 2)", 0, "0");
        value("(/ 0 2)", 0, "0");
        value("(< -2147483648 2147483647)", 0, "yes");
        value("(< 2147483647 -2147483648)", 0, "no");
        value("(< 2147483646 2147483647)", 0, "yes");
        value("(< 2147483647 2147483647)", 0, "no");
        stops("(/ 1 0)", 2);
        stops("(/ 0 0)", 2);
        stops("(/ -2147483648 0)", 2);
        stops("(pair (/ 1 1) (+ 1 (/ 1 (+ 1 -1))))", 2, 1, 1);
        value("(/ 0 1)", 0, "0");
        value("-1", 0, "-1");
        value("1", 0, "1");
        value("-10", 0, "-10");
        value("9", 0, "9");
        value("1000000000", 0, "1000000000");
        value("999999999", 0, "999999999");
        value("-2147483648", 0, "-2147483648");
        value("2147483647", 0, "2147483647");
        template("(/ ? 0)", "(/ ? 0)");
    }

    /** What is none of the VALUES that an act is told for. */
    static void notAsTold() {
        String[][] others = {{"(told 0 yes)", "yes"}, {"(told 0 (pair 1 2))", "[1 2]"},
            {"(told 0 (def a 0 a))", "d"}, {"(told 0 1)", "1"}};
        for (String act : new String[] {"+", "*", "/", "<"}) {
            for (int i = 0; i < 3; i++) {
                String other = others[i][0];
                stops("(" + act + " " + other + " 1)", 3);
                stops("(" + act + " 1 " + other + ")", 3);
                template("(" + act + " " + other + " (told 0 z))", "(" + act + " " + others[i][1] + " !z)");
                template("(" + act + " (told 0 z) " + other + ")", "(" + act + " !z " + others[i][1] + ")");
            }
            template("(" + act + " z z)", "(" + act + " !z !z)");
        }
        for (int i : new int[] {0, 1, 3}) {
            stops("(use " + others[i][0] + " 1)", 3);
            stops("(use " + others[i][0] + " z)", 3);
        }
        for (int i : new int[] {1, 2, 3}) {
            stops("(pick " + others[i][0] + " 1 2)", 3);
        }
        for (int i : new int[] {0, 2, 3}) {
            stops("(first " + others[i][0] + ")", 3);
            stops("(second " + others[i][0] + ")", 3);
        }
        stops("(+ (/ 1 0) (+ 1 (told 0 yes)))", 2, 0);
        stops("(+ (+ 1 (told 0 yes)) (/ 1 0))", 3, 0);
        value("(pick yes 1 (/ 1 0))", 0, "1");
        value("(pick no (/ 1 0) 2)", 0, "2");
        value("(pick z (/ 1 0) (/ 1 0))", 1, "(pick !z 1)");
        stops("(let a (/ 1 0) 5)", 2, 0);
        value("(def a 0 (/ 1 0))", 0, "d1");
        stops("(use (def a 0 5) (/ 1 0))", 2, 1);
        stops("(use z (/ 1 0))", 2, 1);
        stops("(pair (/ 1 0) 2)", 2, 0);
    }

    /** Something LEFT, births left out. */
    static void template(String program, String want) {
        HoleDesk d = Desk.of(program);
        due("24: " + program, d.work(300), 1);
        due("28: " + program, PromisesTest.template(d, Desk.value(d)), want);
    }

    // ---- STEPS

    /** A program that takes 300 STEPS, and each tail one more. */
    static String threeHundred(int more) {
        String uses = around("(use f", 9, "1");
        return around("(told 0", more, "(let f (def x 0 " + around("(told 0", 30, "x") + ") " + uses + ")");
    }

    static void steps() {
        outcome(threeHundred(0), 300, 0, 300);
        outcome(threeHundred(0), 299, 4, 299);
        outcome(threeHundred(1), 300, 4, 300);
        HoleDesk d = Desk.of(threeHundred(0));
        d.work(299);
        due("27: the 300th was due", d.told(d.where(), 0), Desk.NAME);
        due("24: 301", d.work(301), Desk.BAD);
        due("24: -1", d.work(-1), Desk.BAD);
        due("24: 0", d.work(0), 4);
        due("26: 0", d.steps(), 0);
        due("27: the top was due", d.where(), Desk.top(d));
        outcome("5", 1, 0, 1);
        outcome("5", 0, 4, 0);
        outcome("(/ 1 0)", 3, 2, 3);
        outcome("(/ 1 0)", 2, 4, 2);
        outcome("(let a 1 (pair a a))", 5, 0, 5);
        outcome("(let a 1 (pair a a))", 4, 4, 4);
        outcome("(pick yes 1 2)", 3, 0, 3);
        outcome("(use (def a 0 (+ a a)) 4)", 6, 0, 6);
        outcome("(use (def a 0 (+ a a)) 4)", 5, 4, 5);
        outcome("(first (pair 1 2))", 4, 0, 4);
        outcome("(+ 1 yes)", 3, 1, 3);
        outcome("(def a 0 (+ a a))", 1, 0, 1);
    }

    /** A VALUE of pairs that takes so many STEPS to go on with: 299, and one more for each (first z) in it. */
    static String trees(int firsts) {
        String last = (firsts > 0 ? "(first z)" : "1") + " " + (firsts > 1 ? "(first z)" : "1");
        StringBuilder program = new StringBuilder("(pair h (pair e (pair c (pair " + last + "))))");
        for (int i = 7; i >= 1; i--) {
            char x = (char) ('a' + i - 1);
            program.insert(0, "(let " + (char) (x + 1) + " (pair " + x + " " + x + ") ").append(")");
        }
        return "(let a 1 " + program + ")";
    }

    static void goesOn(String program, int n, int outcome, int steps) {
        HoleDesk d = Desk.of(program);
        due("24: a value", d.work(300) < 2 ? 1 : 0, 1);
        due("25: " + n + " STEPS", d.resume(n), outcome);
        due("26: " + n + " STEPS of going on", d.steps(), steps);
        due("27: a VALUE was due", d.where(), Desk.NONE);
        due("28: no value, if SPENT", d.value(-1) < 0 ? 1 : 0, outcome == 4 ? 1 : 0);
    }

    static void stepsOfGoingOn() {
        goesOn(trees(0), 300, 0, 299);
        goesOn(trees(0), 299, 0, 299);
        goesOn(trees(0), 298, 4, 298);
        goesOn(trees(1), 300, 1, 300);
        goesOn(trees(1), 299, 4, 299);
        goesOn(trees(2), 300, 4, 300);
        goesOn("5", 1, 0, 1);
        goesOn("5", 0, 4, 0);
        goesOn("yes", 1, 0, 1);
        goesOn("z", 1, 1, 1);
        goesOn("z", 0, 4, 0);
        goesOn("?", 1, 1, 1);
        goesOn("(pair 1 2)", 3, 0, 3);
        goesOn("(pair 1 2)", 2, 4, 2);
        goesOn("(let a 1 (let b 2 ?))", 3, 1, 3);
        goesOn("(let a 1 (let b 2 ?))", 2, 4, 2);
        goesOn("(let a 1 (let b 2 (def c 0 c)))", 3, 0, 3);
        goesOn("(let a 1 (let b 2 (def c 0 c)))", 2, 4, 2);
        goesOn("(let a 1 (let a 2 ?))", 2, 1, 2);
        goesOn("(let a 1 (pick z a a))", 3, 1, 3);
        goesOn("(let a 1 (pick z a a))", 2, 4, 2);
        goesOn("(let a 1 (+ z a))", 3, 1, 3);
        goesOn("(use z 1)", 3, 1, 3);
        goesOn("(first z)", 2, 1, 2);
        goesOn("(second z)", 1, 4, 1);
        goesOn("(first 1)", 3, 1, 3);
        goesOn("(first 1)", 2, 4, 2);
        goesOn("(told 0 z)", 1, 1, 1);
        HoleDesk d = Desk.of("5");
        d.work(300);
        due("25: 301", d.resume(301), Desk.BAD);
        due("25: -1", d.resume(-1), Desk.BAD);
        due("25: 300", d.resume(300), 0);
        due("25: 0", d.resume(0), 4);
        due("25: it came to 4", d.resume(300), Desk.STATE);
    }

    // ---- the 61st begun within one another

    /** Its x is begun within 35 others and what stands around it, in three uses of f. */
    static HoleDesk deep(int around, String x) {
        String uses = around("(told 0", around, "(use f (pair f (pair f (pair (def y 0 y) 1))))");
        return Desk.of("(let f (def x 0 " + around("(told 0", 15, "(use (first x) (second " + x + "))") + ") " + uses + ")");
    }

    static void withinWorking() {
        HoleDesk sixty = deep(8, "x");
        due("24: the 60th", sixty.work(300), 0);
        due("28: the 60th", Desk.value(sixty), "1");
        HoleDesk more = deep(9, "x");
        due("24: the 61st", more.work(300), 4);
        due("27: a NAME was due", more.told(more.where(), 0), Desk.NAME);
        due("27: that of the FIRST", more.told(more.told(more.where(), 3), 0), Desk.FIRST);
        due("26: fewer than 300", more.steps() < 300 ? 1 : 0, 1);
        HoleDesk second = deep(8, "(told 0 x)");
        due("24: the 61st", second.work(300), 4);
        due("27: a NAME was due", second.told(second.where(), 0), Desk.NAME);
        due("27: that of the SECOND", second.told(second.told(second.told(second.where(), 3), 3), 0), Desk.SECOND);
        String[] sixtyOf = {"(told 0", "(first", "(second"};
        for (String of : sixtyOf) {
            HoleDesk d = Desk.of(around(of, 59, "?"));
            due("24: 60 within one another: " + of, d.work(300), 1);
            due("26: 60", d.steps(), 60);
        }
        String omega = "(let f (def x 0 (use x x)) (use f f))";
        HoleDesk without = Desk.of(omega);
        due("24: without end", without.work(300), 4);
        due("27: x", without.where(), Desk.at(without, 0, 0, 0));
        due("26: 59 USES begun, and f f, x x beside, LET and DEF", without.steps(), 2 + 59 + 2 * 58);
        String picks = "(let f (def x 0 (pick yes (use x x) 1)) (use f f))";
        HoleDesk pick = Desk.of(picks);
        due("24: without end", pick.work(300), 4);
        due("27: in the PICK", pick.told(pick.told(pick.where(), 3), 0), Desk.USE);
        String lets = "(let f (def x 0 (let y 1 (use x x))) (use f f))";
        HoleDesk let = Desk.of(lets);
        due("24: without end", let.work(300), 4);
        due("26: two within one another each time", let.steps(), pick.steps());
    }

    /** A VALUE in which so many others are within one another, made by uses of a DEF that makes ten. */
    static String within(int many, String ahead, String behind, String of) {
        String x = (ahead + " ").repeat(10) + "x" + behind.repeat(10);
        String program = around("(use f", many / 10, (ahead + " ").repeat(many % 10) + of + behind.repeat(many % 10));
        return "(let f (def x 0 " + x + ") " + program + ")";
    }

    /** What is the 60th VALUE gone on with, within one another, and what the 61st. */
    static void deepest(String program, boolean fits) {
        HoleDesk d = Desk.of(program);
        due("24: " + program, d.work(300) < 2 ? 1 : 0, 1);
        int outcome = d.count(6);
        due("25: " + program, d.resume(300), fits ? outcome : 4);
        due("27: a VALUE", d.where(), Desk.NONE);
        due("26: the 61st is not begun", d.steps() >= 60 ? 1 : 0, 1);
    }

    static void withinGoingOn() {
        for (int more = 0; more <= 1; more++) {
            boolean fits = more == 0;
            deepest(within(59 + more, "(first", ")", "z"), fits);
            deepest(within(59 + more, "(use z", ")", "z"), fits);
            deepest(within(59 + more, "(pair 1", ")", "2"), fits);
            deepest(within(59 + more, "(pair", " 1)", "2"), fits);
            deepest(within(59 + more, "(+ z", ")", "2"), fits);
            deepest(within(59 + more, "(+", " z)", "2"), fits);
            deepest(within(58 + more, "(second", ")", "yes"), fits);
            deepest(within(58 + more, "(first", ")", "?"), fits);
            deepest(within(57 + more, "(first", ")", "(pick z 1 2)"), fits);
            deepest(within(58 + more, "(pair 1", ")", "(def a 0 a)"), fits);
            deepest(defs(2 + more), fits);
        }
    }

    /** 57 and so many DEFS that see one another; the last one sees 1. */
    static String defs(int more) {
        return "(let w (def x 0 (def y 0 x)) (let v (def x 0 " + around("(use w", 3, "x") + ") "
            + around("(use v", 19, around("(use w", more, "1")) + "))";
    }

    /** A NODE that is begun by going on with what is left: if that is too deep, its SORT and that above it. */
    static void begun(String program, String filling, int outcome, int sort, int parentSort) {
        HoleDesk d = Desk.of(filling);
        d.shelve(0);
        d.take();
        Desk.put(d, program);
        due("24: " + program, d.work(300), 1);
        d.seek(d.hole(0, false));
        due("20: " + filling, d.fill(0) >= 0 ? 1 : 0, 1);
        due("25: " + program + " with " + filling, d.resume(300), outcome);
        if (outcome == 4) {
            due("27: a NODE was due", d.told(d.where(), 0), sort);
            due("27: that one", d.told(d.told(d.where(), 3), 0), parentSort);
        } else {
            due("27: nowhere", d.where(), Desk.NONE);
        }
    }

    static void beginningWithinGoingOn() {
        begun(around("(first", 58, "?"), "5", 1, 0, 0);
        begun(around("(first", 58, "?"), "(told 1 5)", 4, Desk.NUMBER, Desk.TOLD);
        begun(around("(first", 59, "?"), "5", 4, Desk.NUMBER, Desk.FIRST);
        for (int k = 38; k <= 39; k++) {
            int outcome = k == 38 ? 1 : 4;
            String tolds = around("(told 0", 20, "z");
            begun(within(k, "(first", ")", "(use ? z)"), "(def b 0 " + around("(told 0", 20, "b") + ")", outcome,
                Desk.NAME, Desk.TOLD);
            begun(within(k, "(first", ")", "(pick ? " + tolds + " z)"), "yes", outcome, Desk.NAME, Desk.TOLD);
            begun(within(k, "(first", ")", "(pick ? z " + tolds + ")"), "no", outcome, Desk.NAME, Desk.TOLD);
            begun(within(k, "(first", ")", "?"), tolds, outcome, Desk.NAME, Desk.TOLD);
        }
    }

    /** Going on with a program whose hole is filled: it stops in the filling, behind so many STEPS. */
    static void stopsGoingOn(String program, String filling, int outcome, int steps) {
        HoleDesk d = Desk.of(filling);
        d.shelve(0);
        d.take();
        Desk.put(d, program);
        due("24: " + program, d.work(300) < 2 ? 1 : 0, 1);
        d.seek(d.hole(0, false));
        int top = d.fill(0);
        due("25: " + program + " with " + filling, d.resume(300), outcome);
        due("26: nothing is begun behind it", d.steps(), steps);
        due("27: there", d.where(), top);
        due("28: no VALUE", d.value(-1), Desk.NONE);
        due("36: it came to that", d.count(6), outcome);
    }

    static void stoppedInGoingOn() {
        stopsGoingOn("(pick ? 1 2)", "(/ 1 0)", 2, 5);
        stopsGoingOn("(let a 1 (let b 2 (pick (first ?) a b)))", "(/ 1 0)", 2, 8);
        stopsGoingOn("(let a 1 (let b 2 (pick (first ?) a b)))", "(first (told 0 1))", 3, 8);
        stopsGoingOn("(pair ? (pair 1 2))", "(/ 1 0)", 2, 5);
        stopsGoingOn("(+ ? z)", "(/ 1 0)", 2, 5);
        stopsGoingOn("(use ? z)", "(first (told 0 1))", 3, 5);
        stopsGoingOn("(let a ? (let b 2 (def c 0 a)))", "(/ 1 0)", 2, 5);
        stopsGoingOn("(let a ? (let b 2 (pair ? b)))", "(/ 1 0)", 2, 6);
        stopsGoingOn("(told 1 (pair ? 1))", "(/ 1 0)", 2, 6);
    }

    // ---- what is LEFT, and what comes

    static void outcomes() {
        value("(pair 1 (pair yes no))", 0, "[1 [yes no]]");
        template("(pair 1 (pair yes z))", "[1 [yes !z]]");
        template("(pair z (pair yes no))", "[!z [yes no]]");
        template("(pair 1 (first 2))", "[1 (first {2})]");
        template("(pair 1 (told 1 yes))", "[1 {yes}]");
        value("(def a 0 z)", 0, "d1");
        value("(let a z (def b 0 a))", 0, "d5");
        value("(let a z (pair 1 (def b 0 a)))", 0, "[1 d9]");
        value("(let a z 1)", 0, "1");
        value("(first (pair 1 z))", 0, "1");
        template("(second (pair 1 z))", "!z");
        value("(use (def a 0 1) z)", 0, "1");
    }

    static void frames() {
        template("z", "!z");
        template("(+ z 1)", "(+ !z 1)");
        template("(told 1 (let a yes a))", "{yes}");
        template("(use 3 1)", "(use {3} 1)");
        template("(first (def a 0 a))", "(first {d})");
        template("(second yes)", "(second {yes})");
        template("(pick yes 1 no)", "{1}");
        template("(pick z 1 no)", "{(pick !z #)}");
        template("(pick 5 1 2)", "(pick {5} #)");
        value("(told 1 (first (told 0 (pair yes 2))))", 0, "yes");
        template("(let a (pick yes 1 no) (+ a a))", "(+ {1} {1})");
        template("(let a yes (+ a a))", "(+ {yes} {yes})");
        template("(let a (pick no 1 no) (told 1 (pair a 2)))", "{[{no} 2]}");
        stops("(+ 1 (< (/ 1 0) 2))", 2, 1, 0);
        stops("(first (+ (told 0 yes) 2))", 3, 0);
        HoleDesk d = new HoleDesk();
        d.kind(false, 1, 1);
        Desk.put(d, "(told 3 (def a 2 1))");
        due("24: REASON 4", d.work(300), 1);
        due("28: REASON 4", Desk.value(d), "{d" + Desk.at(d, 0) + "}");
    }

    static void binding() {
        value("(let a 1 (let a (+ a 1) (* a 10)))", 0, "20");
        value("(let a 1 (+ (let a 5 a) a))", 0, "6");
        value("(let a 1 (use (def a 0 (* a 10)) (+ a 2)))", 0, "30");
        value("(let a 1 (let f (def b 0 (+ a b)) (let a 50 (use f a))))", 0, "51");
        value("(let z 7 (def a 0 z))", 0, "d5");
        value("(let z 7 (use (def y 0 (+ y z)) 1))", 0, "8");
        value("(use (let a 3 (def b 0 (+ a b))) 4)", 0, "7");
        value("(use (use (def a 0 (def a 0 a)) 1) 2)", 0, "2");
        template("(let a a a)", "!a");
        template("(pair (let a 1 a) a)", "[1 !a]");
        template("(use (def a 0 (pair a 1)) a)", "[!a 1]");
    }

    static void seeing() {
        StringBuilder program = new StringBuilder("(pair ? (let a 5 ?))");
        for (int i = 25; i >= 0; i--) {
            program.insert(0, "(let " + (char) ('a' + i) + " " + i + " ").append(")");
        }
        HoleDesk d = Desk.of(program.toString());
        due("24: 26 letters", d.work(300), 1);
        for (int x = 0; x < 26; x++) {
            due("30: as letter " + x, Desk.seen(d, 0, (char) ('a' + x)), Integer.toString(x));
        }
        due("30: the nearest", Desk.seen(d, 1, 'a'), "5");
        due("30: the others", Desk.seen(d, 1, 'z'), "25");
        due("30: x 26", d.seen(0, 26, 0), Desk.BAD);
        due("30: x -1", d.seen(0, -1, 0), Desk.BAD);
        due("30: x 26, no such hole", d.seen(2, 26, 0), Desk.BAD);
        due("30: no such hole", d.seen(2, 25, 0), Desk.NONE);
        due("30: no such hole", d.seen(-1, 25, -1), Desk.NONE);
        due("30: the last byte", d.seen(0, 25, 1), '5');
        due("30: behind it", d.seen(0, 25, 2), Desk.NONE);
        due("30: how many", d.seen(0, 25, -1), 2);
        due("30: below", d.seen(0, 25, -2), Desk.NONE);
        due("30: far", d.seen(0, 25, MIN), Desk.NONE);
        due("30: far", d.seen(MAX, 25, MAX), Desk.NONE);
        due("29: the last", d.left(1), Desk.at(d, desc(26, 1, 1)));
        due("29: no more", d.left(2), Desk.NONE);
        due("29: below", d.left(-1), Desk.NONE);
        due("29: far", d.left(MIN), Desk.NONE);
        due("29: far", d.left(MAX), Desk.NONE);
        due("25: the pair, both holes, and what both see", d.resume(55), 1);
        due("25: one STEP fewer", d.resume(54), 4);
    }

    /** A path of so many second parts, and others. */
    static int[] desc(int seconds, int... then) {
        int[] path = new int[seconds + then.length];
        for (int i = 0; i < path.length; i++) {
            path[i] = i < seconds ? 1 : then[i - seconds];
        }
        return path;
    }

    // ---- 400 bytes

    /** Pairs in pairs of 28 numbers of 11 bytes and a last one: 392 bytes and those of the last one. */
    static String row(String last) {
        return around("(pair -1234567890", 28, last);
    }

    static String rowWritten(String last) {
        return "[-1234567890 ".repeat(28) + last + "]".repeat(28);
    }

    static void bytes() {
        String[] lasts = {"1234567", "12345678", "123456789", "1234567890"};
        for (int i = 0; i < lasts.length; i++) {
            HoleDesk d = Desk.of(row(lasts[i]));
            due("24: a row", d.work(300), 0);
            String all = rowWritten(lasts[i]);
            due("so long", all.length(), 399 + i);
            Desk.dueBytes("28: it ends behind 400", d, all.substring(0, Math.min(400, 399 + i)));
        }
        String[] ends = {"yes", "yes", "(def a 0 1)", "z", "-5", "(first 1)", "(first 1)"};
        String[] rows = {"12345", "1234", "12345", "12345", "12345", "12345", "1234"};
        String[] written = {"y", "ye", "d", "!", "-", "(", "(f"};
        for (int i = 0; i < ends.length; i++) {
            HoleDesk d = Desk.of("(pair " + row(rows[i]) + " " + ends[i] + ")");
            due("24: a row and " + ends[i], d.work(300) < 2 ? 1 : 0, 1);
            due("28: 400 bytes", d.value(-1), 400);
            Desk.dueBytes("28: it ends in " + ends[i], d, "[" + rowWritten(rows[i]) + " " + written[i]);
        }
        HoleDesk tight = Desk.of("(told 1 " + row("123456") + ")");
        due("24: in a frame", tight.work(300), 1);
        Desk.dueBytes("28: 400 in a frame", tight, "{" + rowWritten("123456") + "}");
        HoleDesk cut = Desk.of("(told 1 " + row("1234567") + ")");
        cut.work(300);
        Desk.dueBytes("28: 401 in a frame", cut, "{" + rowWritten("1234567"));
    }

    /** What was ended behind 400 bytes leaves nothing for what is written next. */
    static void bytesAfterEnding() {
        HoleDesk d = Desk.of("(pair (let a 1 " + PromisesTest.doubled(9, "a") + ") 5)");
        d.work(300);
        due("28: ended", d.value(-1), 400);
        Desk.seek(d).unwrap(1);
        due("24: anew", d.work(300), 0);
        due("28: anew", Desk.value(d), "5");
        HoleDesk e = Desk.of("(let b 5 (let a -1234567890 " + PromisesTest.doubled(8, "?") + "))");
        due("24: a hole", e.work(300), 1);
        due("30: ended", e.seen(0, 0, -1), 400);
        due("30: another one", Desk.seen(e, 0, 'b'), "5");
        due("30: ended again", e.seen(0, 0, -1), 400);
        due("28: the value stays", Desk.value(e), "?" + e.left(0));
    }

    static void bytesOfHoles() {
        for (int digits = 3; digits <= 6; digits++) {
            String last = "123456".substring(0, digits);
            HoleDesk d = Desk.of("(pair " + row(last) + " ?)");
            due("24: a row and a hole", d.work(300), 1);
            String all = "[" + rowWritten(last) + " ?" + Desk.at(d, 1) + "]";
            Desk.dueBytes("28: it ends behind 400", d, all.substring(0, Math.min(400, all.length())));
            due("29: whose ? is among the bytes", d.left(0), all.indexOf('?') < 400 ? Desk.at(d, 1) : Desk.NONE);
            due("29: no other", d.left(1), Desk.NONE);
            due("30: it sees nothing", d.seen(0, 0, -1), Desk.NONE);
        }
        HoleDesk none = Desk.of("(pair " + row("12345") + " 1)");
        due("24: no hole", none.work(300), 0);
        due("29: no hole", none.left(0), Desk.NONE);
    }

    static void bytesSeen() {
        String[] lasts = {"1234567", "12345678", "123456789"};
        for (int i = 0; i < lasts.length; i++) {
            HoleDesk d = Desk.of("(let z " + row(lasts[i]) + " ?)");
            due("24: a hole", d.work(300), 1);
            int bytes = Math.min(400, 399 + i);
            due("30: bytes", d.seen(0, 25, -1), bytes);
            due("30: the last", d.seen(0, 25, bytes - 1), rowWritten(lasts[i]).charAt(bytes - 1));
            due("30: none behind it", d.seen(0, 25, bytes), Desk.NONE);
            due("28: the value is another one", Desk.value(d), "?" + Desk.at(d, 1));
        }
        HoleDesk e = Desk.of("(let a (pair ? 1) (pair ? a))");
        e.work(300);
        int inA = Desk.at(e, 0, 0);
        due("30: a hole in what it sees", Desk.seen(e, 0, 'a'), "[?" + inA + " 1]");
        due("29: those of the value, not of what is seen", e.left(1), inA);
        due("29: no more", e.left(2), Desk.NONE);
        due("28: it stays", Desk.value(e), "[?" + Desk.at(e, 1, 0) + " [?" + inA + " 1]]");
    }

    // ---- going on with what was filled

    static void filledHoles() {
        HoleDesk d = Desk.of("5");
        d.shelve(0);
        d.take();
        Desk.put(d, "(let a ? (pair a (pair ? a)))");
        due("24: a hole twice, and another", d.work(300), 1);
        due("29: each time", d.left(0), Desk.at(d, 0));
        due("29: each time", d.left(2), Desk.at(d, 0));
        Desk.seek(d, 0).fill(0);
        due("28: not before it is gone on with", d.left(0) < 0 ? 1 : 0, 0);
        due("25: one of them is filled", d.resume(300), 1);
        due("28: each time", PromisesTest.template(d, Desk.value(d)), "[5 [? 5]]");
        due("30: in what is seen, too", Desk.seen(d, 0, 'a'), "5");
        due("29: the other one", d.left(0), Desk.at(d, 1, 1, 0));
        due("29: alone", d.left(1), Desk.NONE);
        due("25: none is filled since", d.resume(300), 1);
        due("28: none is filled since", PromisesTest.template(d, Desk.value(d)), "[5 [? 5]]");
        Desk.seek(d, 1, 1, 0).fill(0);
        due("25: the last one", d.resume(300), 0);
        due("28: the last one", Desk.value(d), "[5 [5 5]]");
        due("25: nothing left", d.resume(300), 0);
        due("26: three numbers in two pairs", d.steps(), 5);
        HoleDesk e = Desk.of("5");
        e.shelve(0);
        e.take();
        Desk.put(e, "(let f (def b 0 (+ b ?)) (pair f (pick ? (use f 1) ?)))");
        due("24: holes that are not begun", e.work(300), 1);
        due("29: one alone", e.left(1), Desk.NONE);
        Desk.seek(e, 0, 0, 1).fill(0);
        Desk.seek(e, 1, 1, 2).fill(0);
        due("25: filled since, but not begun", e.resume(300), 1);
        due("28: as it was", PromisesTest.template(e, Desk.value(e)), "[d (pick ? #)]");
        Desk.seek(e, 1, 1, 0).put(2, 1, 0);
        due("25: put", e.resume(300), Desk.STATE);
        due("24: anew", e.work(300), 0);
        due("28: anew", PromisesTest.template(e, Desk.value(e)), "[d 6]");
    }

    /** A HOLE that was filled by a HOLE, which was filled in turn; and one that is not filled any more. */
    static void filledInTurn() {
        HoleDesk d = new HoleDesk();
        d.shelve(0);
        d.put(1, 5, 0);
        d.shelve(1);
        d.take();
        Desk.put(d, "(+ 1 ?)");
        due("24: left", d.work(300), 1);
        for (int times = 0; times < 3; times++) {
            Desk.seek(d, 1).fill(0);
        }
        due("25: filled by a HOLE", d.resume(300), 1);
        due("29: that one", d.left(0), Desk.at(d, 1));
        due("26: the act, 1, the HOLE, what fills it", d.steps(), 4);
        Desk.seek(d, 1).fill(0);
        Desk.seek(d, 1).fill(1);
        due("25: filled in turn", d.resume(300), 0);
        due("28: filled in turn", Desk.value(d), "6");
        HoleDesk e = Desk.of("5");
        e.shelve(1);
        e.take();
        Desk.put(e, "(+ 1 ?)");
        e.work(300);
        Desk.seek(e, 1).fill(1);
        e.undo();
        due("24: not filled any more", e.work(300), 1);
        due("25: not filled any more", e.resume(300), 1);
        due("29: the HOLE", e.left(0), Desk.at(e, 1));
        Desk.seek(e, 1).fill(1);
        due("25: filled again", e.resume(300), 0);
        due("28: filled again", Desk.value(e), "6");
    }

    static void staying() {
        HoleDesk d = Desk.of("(let a 4 (+ a ?))");
        d.work(300);
        String value = Desk.value(d);
        int hole = d.left(0);
        Desk.seek(d).rename(1);
        Desk.seek(d, 0).write(9);
        d.undo();
        Desk.seek(d).take();
        due("21: value() stays told", Desk.value(d), value);
        due("21: left() stays told", d.left(0), hole);
        due("21: seen() stays told", Desk.seen(d, 0, 'a'), "4");
        due("21: seen() stays told", Desk.seen(d, 0, 'b'), "none");
        due("21: steps() stays told", d.steps(), 5);
        due("21: count(6) stays told", d.count(6), 1);
        d.undo();
        due("21: value() stays told", Desk.value(d), value);
        HoleDesk e = Desk.of("(pair 1 (/ 2 0))");
        e.work(300);
        int where = e.where();
        due("27: REFUSED there", where, Desk.at(e, 1));
        Desk.seek(e, 1).take();
        due("21: where() stays told", e.where(), where);
        due("12: it is not in THE SHEET", e.seek(where), Desk.BAD);
        e.undo();
        due("21: where() stays told", e.where(), where);
        due("24: anew", e.work(0), 4);
        due("27: SPENT at the top", e.where(), Desk.top(e));
        due("28: none behind another one", e.value(-1), Desk.NONE);
    }
}
