import java.lang.reflect.Method;
import java.lang.reflect.Modifier;
import java.util.ArrayList;
import java.util.Arrays;
import java.util.HashMap;
import java.util.List;
import java.util.Map;
import java.util.Random;

/** Random runs of calls on HoleDesk and on the Model: every answer must be the same. */
public final class DifferentialTest {
    /** What later calls answer is free. */
    static final int MOST_CALLS = 512;

    record Call(String name, int a, int b, int c) {
        public String toString() {
            return name + "(" + a + ", " + b + ", " + c + ")";
        }
    }

    static final Map<String, Method> DESK = face(HoleDesk.class);
    static final Map<String, Method> MODEL = face(Model.class);

    /** The methods of a class that take nothing but numbers and truths, by their names. */
    static Map<String, Method> face(Class<?> of) {
        Map<String, Method> face = new HashMap<>();
        for (Method method : of.getDeclaredMethods()) {
            if (!Modifier.isPrivate(method.getModifiers())
                && Arrays.stream(method.getParameterTypes()).allMatch(t -> t == int.class || t == boolean.class)) {
                face.put(method.getName(), method);
            }
        }
        return face;
    }

    /** Calls a method with as many of the numbers as it takes; for a truth, 0 is false. */
    static long answer(Map<String, Method> face, Object on, Call q) {
        Method method = face.get(q.name);
        int[] numbers = {q.a, q.b, q.c};
        Class<?>[] types = method.getParameterTypes();
        Object[] taken = new Object[types.length];
        for (int i = 0; i < taken.length; i++) {
            taken[i] = types[i] == int.class ? (Object) numbers[i] : (Object) (numbers[i] != 0);
        }
        try {
            return ((Number) method.invoke(on, taken)).longValue();
        } catch (ReflectiveOperationException e) {
            throw new IllegalStateException(q.toString(), e);
        }
    }

    final Random random;
    final int letters;
    final int style;
    HoleDesk desk = new HoleDesk();
    Model model = new Model();
    final List<String> log = new ArrayList<>();
    int wrong = 0;
    static final java.util.TreeMap<String, Integer> seenAnswers = new java.util.TreeMap<>();

    DifferentialTest(long seed) {
        random = new Random(seed);
        letters = random.nextInt(4) == 0 ? 26 : 1 + random.nextInt(3);
        style = random.nextInt(4);
    }

    long call(String name, int a, int b, int c) {
        Call q = new Call(name, a, b, c);
        log.add(q.toString());
        long want = answer(MODEL, model, q);
        long got = answer(DESK, desk, q);
        if (got != want && log.size() <= MOST_CALLS) {
            wrong++;
            if (wrong < 3) {
                System.out.println("call " + log.size() + " " + q + " answered " + got + ", due is " + want);
            }
        }
        String what = want >= 0 ? "ok" : Long.toString(want);
        if (name.equals("work") || name.equals("resume")) {
            what = Long.toString(want);
        }
        if (want >= -9 && !name.equals("digest")) {
            seenAnswers.merge(name + " " + what, 1, Integer::sum);
        }
        return want;
    }

    long call(String name, int... args) {
        return call(name, args.length > 0 ? args[0] : 0, args.length > 1 ? args[1] : 0,
            args.length > 2 ? args[2] : 0);
    }

    int odd() {
        int[] odd = {-1, Integer.MIN_VALUE, Integer.MAX_VALUE, 26, 61, 3000, -9};
        return odd[random.nextInt(odd.length)];
    }

    int birth() {
        if (random.nextInt(20) == 0) {
            return random.nextInt(Math.max(1, model.births + 3)) - 1;
        }
        List<Model.Tree> all = model.top.all();
        return all.get(random.nextInt(all.size())).birth;
    }

    int letter() {
        return random.nextInt(30) == 0 ? odd() : random.nextInt(letters);
    }

    int kindNumber() {
        return random.nextInt(30) == 0 ? odd() : random.nextInt(model.kinds.size() + (random.nextInt(10) == 0 ? 1 : 0));
    }

    int whole() {
        int[] some = {0, 1, 2, 3, 7, -1, -2, 10, Integer.MAX_VALUE, Integer.MIN_VALUE, 65536, random.nextInt()};
        return some[random.nextInt(some.length)];
    }

    void toHole() {
        int holes = 0;
        while (model.hole(holes, false) != Model.NONE) {
            holes++;
        }
        if (holes > 0) {
            long birth = call("hole", random.nextInt(holes), 0);
            call("seek", (int) birth);
        }
    }

    void putSome() {
        int[][] likes = {
            {1, 2, 3, 3, 3, 4, 5, 6, 7, 8, 8, 9, 9, 10, 10, 11, 12, 13, 14, 15},
            {3, 3, 3, 8, 8, 9, 9, 10, 10, 12, 1},
            {1, 1, 1, 2, 3, 4, 6, 7, 10, 11, 12, 12, 13, 14, 15},
            {3, 3, 1, 10, 10, 12, 11, 7, 9, 8}};
        int[] like = likes[style];
        int sort = like[random.nextInt(like.length)];
        if (random.nextInt(12) == 0) {
            // of UNKNOWN kind, so that what comes may CLASH
            call("put", Desk.TOLD, 0, 0);
            call("go", 1);
        }
        if (random.nextInt(40) == 0) {
            sort = random.nextInt(18) - 1;
        }
        int v = sort == 1 ? whole() : sort == 2 ? random.nextInt(2) : letter();
        call("put", sort, v, random.nextInt(3) == 0 ? 0 : kindNumber());
    }

    /** Fills the hole with one of the ways offered, so that programs come about that work. */
    void putOffered() {
        int many = (int) call("offers");
        if (many > 0) {
            int i = random.nextInt(many);
            int sort = (int) call("offer", i, 0);
            int x = (int) call("offer", i, 1);
            int v = sort == 3 ? x : sort == 1 ? whole() : sort == 2 ? random.nextInt(2) : random.nextInt(letters);
            call("put", sort, v, kindNumber());
        }
    }

    void workAndGoOn() {
        long outcome = call("work", random.nextInt(6) == 0 ? random.nextInt(310) - 3 : 300);
        look();
        for (int i = 0; i < 5 && (outcome == 1 || random.nextInt(4) == 0); i++) {
            int hole = (int) call("left", random.nextInt(4));
            if (hole < 0 || call("seek", hole) != 1) {
                break;
            }
            if (random.nextInt(6) == 0) {
                call("fill", random.nextInt(6));
                toHole();
            }
            call("fill", random.nextInt(6));
            if (random.nextInt(6) == 0) {
                toHole();
                call("fill", random.nextInt(6));
            }
            outcome = call("resume", random.nextInt(8) == 0 ? random.nextInt(60) : 300);
            look();
        }
    }

    /** What was worked: all of its bytes or the last ones, and its first holes. */
    void look() {
        int many = (int) call("value", -1);
        int first = random.nextInt(3) == 0 ? 0 : Math.max(0, many - 8);
        for (int i = first; i <= Math.max(0, many); i++) {
            call("value", i);
        }
        for (int i = 0; i < 6; i++) {
            if (call("left", i) < 0) {
                break;
            }
            for (int x = 0; x < letters; x++) {
                int bytes = (int) call("seen", i, x, -1);
                for (int j = 0; j < Math.min(bytes, 12); j++) {
                    call("seen", i, x, j);
                }
            }
        }
        call("left", 0);
        call("steps");
        call("where");
        call("count", 6);
    }

    void keepOf(int sort) {
        List<Model.Tree> those = new ArrayList<>(model.top.all());
        those.removeIf(t -> t.sort != sort);
        int place = random.nextInt(12) == 0 ? random.nextInt(10) - 1 : random.nextInt(4);
        call("keep", place, those.isEmpty() ? birth() : those.get(random.nextInt(those.size())).birth);
    }

    /** Builds a tree on the shelf that can fill a hole. */
    void stock() {
        call("seek", birth());
        call("shelve", random.nextInt(20) == 0 ? odd() : random.nextInt(6));
    }

    void judged() {
        for (Model.Tree t : model.top.all()) {
            call("told", t.birth, 6);
            int signs = t.made.length();
            for (int i = 0; i <= signs; i++) {
                call("sign", t.birth, 0, i);
            }
            for (int i = 0; i <= (t.asked == null ? 0 : t.asked.length()); i++) {
                call("sign", t.birth, 1, i);
            }
        }
    }

    void some() {
        switch (random.nextInt(40)) {
            case 0, 1, 2, 3, 4, 5, 6 -> {
                toHole();
                putSome();
            }
            case 7, 8, 9, 10 -> {
                toHole();
                putOffered();
            }
            case 11 -> {
                call("seek", birth());
                putSome();
            }
            case 12 -> {
                call("seek", birth());
                if (random.nextInt(3) == 0) {
                    call("take");
                }
            }
            case 13 -> {
                call("seek", birth());
                call("unwrap", random.nextInt(5) - 1);
            }
            case 14 -> {
                call("seek", birth());
                call("write", random.nextBoolean() ? letter() : whole());
            }
            case 15, 16 -> {
                call("seek", birth());
                call("rename", letter());
            }
            case 17, 18 -> {
                call("seek", birth());
                long hole = model.hole(random.nextInt(5), false);
                call("move", hole < 0 || random.nextInt(10) == 0 ? birth() : (int) hole);
            }
            case 19, 20 -> stock();
            case 21 -> {
                toHole();
                call("fill", random.nextInt(20) == 0 ? odd() : random.nextInt(6));
            }
            case 22 -> call("undo");
            case 23, 24, 25, 26 -> workAndGoOn();
            case 27 -> call("resume", random.nextInt(310) - 3);
            case 28 -> call("kind", random.nextInt(2), kindNumber(), kindNumber());
            case 29 -> {
                call("kindOf", kindNumber(), random.nextInt(6) - 1);
                call("meet", kindNumber(), kindNumber());
            }
            case 30 -> judged();
            case 31 -> {
                call("told", birth(), random.nextInt(9) - 1);
                call("part", birth(), random.nextInt(5) - 1);
                call("sign", birth(), random.nextInt(2), random.nextInt(5) - 1);
            }
            case 32 -> {
                call("hole", random.nextInt(8) - 1, random.nextInt(2));
                call("go", random.nextInt(8) - 1);
                call("go", random.nextInt(8) - 1);
                call("seek", birth());
            }
            case 33 -> {
                call("offers");
                call("offer", random.nextInt(20) - 2, random.nextInt(4) - 1);
            }
            case 34 -> {
                if (model.boxNodes.length == 0 || random.nextInt(8) == 0) {
                    call("box", random.nextInt(10) == 0 ? odd() : random.nextInt(12) - 1);
                }
            }
            case 35, 36 -> {
                keepOf(Desk.NUMBER);
                keepOf(random.nextInt(16));
            }
            case 37 -> {
                for (int i = -1; i < 4; i++) {
                    call("boxed", i, random.nextInt(5) == 0 ? random.nextInt(5) : 1 + 2 * random.nextInt(2));
                    call("asked");
                }
            }
            case 38 -> {
                for (int i = 0; i < 5; i++) {
                    call("share", random.nextInt(5) - (i == 0 ? 1 : 0), random.nextInt(5) - (i == 1 ? 1 : 0));
                    call("asked");
                }
            }
            default -> {
                call("count", random.nextInt(9) - 1);
                call("findings", random.nextInt(8) - 1);
                call("value", random.nextInt(20) - 3);
                call("left", random.nextInt(4) - 1);
                call("seen", random.nextInt(4) - 1, letter(), random.nextInt(6) - 2);
            }
        }
        call("digest");
        call("finding");
    }

    int run() {
        int acts = 60 + random.nextInt(200);
        if (random.nextInt(3) == 0) {
            for (int i = 0; i < 6; i++) {
                call("kind", random.nextInt(2), kindNumber(), kindNumber());
            }
        }
        int kindCalls = random.nextInt(12) == 0 ? 200 : 0;
        for (int i = 0; i < kindCalls; i++) {
            call("kind", random.nextInt(2), kindNumber(), kindNumber());
        }
        for (int i = 0; i < acts && wrong == 0 && log.size() < MOST_CALLS; i++) {
            some();
            if (model.nodes() > 45 && random.nextInt(3) > 0) {
                call("seek", birth());
                call(random.nextBoolean() ? "take" : "unwrap", 0);
            }
        }
        return wrong;
    }

    public static void main(String[] args) {
        int runs = args.length > 0 ? Integer.parseInt(args[0]) : 3000;
        long from = args.length > 1 ? Long.parseLong(args[1]) : 1;
        int bad = 0;
        for (long seed = from; seed < from + runs && bad < 5; seed++) {
            DifferentialTest test = new DifferentialTest(seed);
            if (test.run() != 0) {
                bad++;
                System.out.println("the run of seed " + seed + " differs: its last calls are "
                    + test.log.subList(Math.max(0, test.log.size() - 12), test.log.size()));
            }
        }
        if (args.length > 0) {
            System.out.println(seenAnswers);
        }
        System.out.println(bad == 0 ? runs + " runs answered as the model" : bad + " runs differ");
        if (bad != 0) {
            System.exit(1);
        }
    }
}
