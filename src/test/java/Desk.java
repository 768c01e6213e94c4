/** What the tests share: programs put by their text, and answers compared with what is due. */
final class Desk {
    static final int HOLE = 0, NUMBER = 1, TRUTH = 2, NAME = 3, SUM = 4, TIMES = 5, SHARE = 6, LESS = 7;
    static final int DEF = 8, USE = 9, LET = 10, PICK = 11, PAIR = 12, FIRST = 13, SECOND = 14, TOLD = 15;
    static final int BAD = HoleDesk.BAD, FULL = HoleDesk.FULL, FINDING = HoleDesk.FINDING;
    static final int STATE = HoleDesk.STATE, CAUGHT = HoleDesk.CAUGHT, NONE = HoleDesk.NONE;

    static int wrong = 0;
    static int compared = 0;

    private Desk() { }

    static void due(String what, long got, long want) {
        compared++;
        if (got != want) {
            wrong++;
            System.out.println(what + ": " + got + ", due is " + want);
        }
    }

    static void due(String what, String got, String want) {
        compared++;
        if (!want.equals(got)) {
            wrong++;
            System.out.println(what + ": " + got + ", due is " + want);
        }
    }

    static void end() {
        System.out.println(compared + " answers compared, " + wrong + " wrong");
        if (wrong != 0) {
            System.exit(1);
        }
    }

    /** A new desk with a program on it. */
    static HoleDesk of(String program) {
        HoleDesk d = new HoleDesk();
        put(d, program);
        return d;
    }

    /**
     * Puts a program into the hole at the cursor: 3, yes, no, a, ?, (+ 1 2), (* ..), (/ ..), (< ..),
     * (def x k body), (use f a), (let x a b), (pick t a b), (pair a b), (first a), (second a), (told k a).
     */
    static void put(HoleDesk d, String program) {
        String spaced = program.replace("(", " ( ").replace(")", " ) ").trim();
        new Reader(d, spaced.split("\\s+")).tree();
    }

    private static final class Reader {
        final HoleDesk d;
        final String[] words;
        int at = 0;

        Reader(HoleDesk d, String[] words) {
            this.d = d;
            this.words = words;
        }

        /**
         * Puts the next tree where the cursor is, and leaves the cursor on its top. The calls are few, as a
         * desk is promised for 512 of them: the holes that are its parts are born behind a node, in order.
         */
        void tree() {
            String word = words[at++];
            if (word.equals("?")) {
                return;
            }
            if (!word.equals("(")) {
                leaf(word);
                return;
            }
            String act = words[at++];
            int sort = java.util.List.of("+", "*", "/", "<", "def", "use", "let", "pick", "pair", "first",
                "second", "told").indexOf(act) + SUM;
            int x = sort == DEF || sort == LET ? words[at++].charAt(0) - 'a' : 0;
            int k = sort == DEF || sort == TOLD ? Integer.parseInt(words[at++]) : 0;
            int birth = put(sort, x, k);
            for (int i = 1; !words[at].equals(")"); i++) {
                if (words[at].equals("?")) {
                    at++;
                } else {
                    d.seek(birth + i);
                    tree();
                }
            }
            at++;
            d.seek(birth);
        }

        void leaf(String word) {
            if (word.equals("yes") || word.equals("no")) {
                put(TRUTH, word.equals("yes") ? 1 : 0, 0);
            } else if (Character.isLetter(word.charAt(0))) {
                put(NAME, word.charAt(0) - 'a', 0);
            } else {
                put(NUMBER, Integer.parseInt(word), 0);
            }
        }

        int put(int sort, int v, int k) {
            int birth = d.put(sort, v, k);
            if (birth < 0) {
                throw new IllegalStateException("put answered " + birth);
            }
            return birth;
        }
    }

    static int top(HoleDesk d) {
        int was = d.cursor();
        int top = d.go(5);
        d.seek(was);
        return top;
    }

    /** The birth of the node to which a path of parts leads from the top. */
    static int at(HoleDesk d, int... path) {
        int birth = top(d);
        for (int i : path) {
            birth = d.part(birth, i);
        }
        return birth;
    }

    static HoleDesk seek(HoleDesk d, int... path) {
        d.seek(at(d, path));
        return d;
    }

    /** The sheet as a text, as put() takes it. */
    static String sheet(HoleDesk d) {
        return tree(d, top(d));
    }

    static String tree(HoleDesk d, int birth) {
        int sort = d.told(birth, 0);
        int v = d.told(birth, 1);
        switch (sort) {
            case HOLE: return "?";
            case NUMBER: return Integer.toString(v);
            case TRUTH: return v == 1 ? "yes" : "no";
            case NAME: return Character.toString('a' + v);
            default: break;
        }
        String[] words = {"+", "*", "/", "<", "def", "use", "let", "pick", "pair", "first", "second", "told"};
        StringBuilder b = new StringBuilder("(").append(words[sort - SUM]);
        if (sort == DEF || sort == LET) {
            b.append(' ').append((char) ('a' + v));
        }
        if (sort == DEF || sort == TOLD) {
            b.append(' ').append(d.told(birth, 2));
        }
        for (int i = 0; i < d.told(birth, 5); i++) {
            b.append(' ').append(tree(d, d.part(birth, i)));
        }
        return b.append(')').toString();
    }

    /** The value written, "none" if there is none. */
    static String value(HoleDesk d) {
        int many = d.value(-1);
        if (many == NONE) {
            return "none";
        }
        StringBuilder b = new StringBuilder();
        for (int i = 0; i < many; i++) {
            b.append((char) d.value(i));
        }
        return b.toString();
    }

    /** Compares a long value with the text that is due: how many bytes, the first and the last of them. */
    static void dueBytes(String what, HoleDesk d, String want) {
        int many = d.value(-1);
        due(what + ": how many", many, want.length());
        for (int i = 0; i < many && i < want.length(); i++) {
            if (i < 30 || i >= many - 60) {
                due(what + ": byte " + i, d.value(i), want.charAt(i));
            }
        }
        due(what + ": none behind", d.value(many), NONE);
    }

    static String seen(HoleDesk d, int i, char x) {
        int many = d.seen(i, x - 'a', -1);
        if (many == NONE) {
            return "none";
        }
        StringBuilder b = new StringBuilder();
        for (int j = 0; j < many; j++) {
            b.append((char) d.seen(i, x - 'a', j));
        }
        return b.toString();
    }

    static String made(HoleDesk d, int... path) {
        return signs(d, false, path);
    }

    /** The signs of what a node is asked for; nothing for one that is asked freely. */
    static String asked(HoleDesk d, int... path) {
        return signs(d, true, path);
    }

    private static String signs(HoleDesk d, boolean asked, int... path) {
        StringBuilder b = new StringBuilder();
        int birth = at(d, path);
        for (int i = 0; d.sign(birth, asked, i) >= 0; i++) {
            b.append((char) d.sign(birth, asked, i));
        }
        return b.toString();
    }

    static int reason(HoleDesk d, int... path) {
        return d.told(at(d, path), 6);
    }
}
