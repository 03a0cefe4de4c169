/** Long runs of mixed calls: the program's answers and the model's are to be the same. */
public final class ModelTest {
    private static final Due due = new Due();
    private static final int RUNS = 600, CALLS = 512;

    private long seed;
    private final PastCatchers x = new PastCatchers();
    private final Model m = new Model();
    private int calls;

    private ModelTest(int run) {
        seed = run * 7919L + 12345;
    }

    public static void main(String[] args) {
        int runs = args.length > 0 ? Integer.parseInt(args[0]) : RUNS;
        for (int run = 0; run < runs && due.wrong() < 10; run++) {
            new ModelTest(run).plays(run);
        }
        due.end("ModelTest");
    }

    /** Below n, from a seed alone. */
    private int any(int n) {
        seed = seed * 6364136223846793005L + 1442695040888963407L;
        return (int) ((seed >>> 33) % n);
    }

    /** From low to high; now and then one beyond. */
    private int near(int low, int high) {
        int odd = any(40);
        if (odd == 0) {
            int[] far = {low - 1, high + 1, Integer.MIN_VALUE, Integer.MAX_VALUE, -1, low - 2, high + 2};
            return far[any(far.length)];
        }
        return low + any(high - low + 1);
    }

    private int who() {
        int many = m.now.people.size();
        return near(0, many == 0 ? 0 : many - 1);
    }

    private int bits() {
        return any(30) == 0 ? near(-3, 200) : any(1 << m.now.people.size());
    }

    /** A text that is mostly a yard. */
    private String text() {
        StringBuilder text = new StringBuilder();
        int clauses = 1 + any(5);
        for (int i = 0; i < clauses; i++) {
            text.append(i > 0 ? ";" : "").append(new String[] {"reach ", "hold ", "dodge "}[any(3)]);
            text.append(any(10) == 0 ? "0" : "").append(any(10) == 0 ? any(100) : any(8)).append(' ');
            either(text, 0);
        }
        if (any(3) == 0 && text.length() > 0) {
            String signs = "reachold g;|&!()<=>pklsay0123456789~x";
            int at = any(text.length());
            switch (any(4)) {
                case 0: text.setCharAt(at, signs.charAt(any(signs.length()))); break;
                case 1: text.deleteCharAt(at); break;
                case 2: text.insert(at, signs.charAt(any(signs.length()))); break;
                default: text.setLength(at); break;
            }
        }
        return text.toString();
    }

    private void either(StringBuilder text, int depth) {
        int many = any(3) == 0 ? 2 : 1;
        for (int i = 0; i < many; i++) {
            text.append(i > 0 ? "|" : "");
            one(text, depth);
            if (any(4) == 0) {
                text.append('&');
                one(text, depth);
            }
        }
    }

    private void one(StringBuilder text, int depth) {
        int choice = any(6);
        if (choice == 0 && depth < 5) {
            text.append('!');
            one(text, depth + 1);
        } else if (choice == 1 && depth < 5) {
            text.append('(');
            either(text, depth + 1);
            text.append(')');
        } else {
            text.append("pklsay".charAt(any(6))).append("<=>".charAt(any(3))).append(any(9));
        }
    }

    private void is(String call, long got, long want) {
        calls++;
        due.is(call, got, want);
    }

    private void plays(int run) {
        int people = any(8);
        for (int i = 0; i < people; i++) {
            person();
        }
        for (int i = 0; i < people; i++) {
            if (any(3) == 0) {
                catches(i, true);
            }
        }
        if (any(4) != 0) {
            feeds();
        }
        for (int i = 0; i < 4 * CALLS && calls < CALLS; i++) {
            int before = due.wrong();
            calls(any(46));
            if (due.wrong() > before) {
                System.out.println("in run " + run + " at call " + calls);
                return;
            }
        }
    }

    private void person() {
        int kind = near(0, 6);
        int v = near(0, 9);
        int lane = near(0, 6);
        int pace = near(0, 9);
        int strength = near(0, 9);
        is("person", x.person(kind, v, lane, pace, strength), m.person(kind, v, lane, pace, strength));
    }

    private void catches(int p, boolean does) {
        is("catches(" + p + ", " + does + ")", x.catches(p, does), m.catches(p, does));
    }

    private void feeds() {
        String text = text();
        for (int i = 0; i < text.length() && calls < CALLS - 1; i++) {
            is("feed", x.feed(text.charAt(i)), m.feed(text.charAt(i)));
        }
        String whole = m.text.toString();
        is("yard '" + whole + "'", x.yard(), m.yard());
    }

    private void calls(int which) {
        int p = who();
        int q = who();
        int what = near(0, 1);
        switch (which) {
            case 0: person(); break;
            case 1: case 2: {
                int w = near(0, 9);
                is("of(" + p + ", " + w + ")", x.of(p, w), m.of(p, w));
                break;
            }
            case 3: case 4: {
                int n = near(0, what == 0 ? 6 : 9);
                is("set(" + p + ", " + what + ", " + n + ")", x.set(p, what, n), m.set(p, what, n));
                break;
            }
            case 5: case 6: catches(p, any(3) == 0); break;
            case 7: {
                int part = near(0, 3);
                int n = near(0, 6);
                is("row(" + p + ", " + part + ", " + n + ")", x.row(p, part, n), m.row(p, part, n));
                break;
            }
            case 8: {
                int sign = any(10) == 0 ? near(0, 127) : 'r';
                is("feed(" + sign + ")", x.feed(sign), m.feed(sign));
                break;
            }
            case 9: feeds(); break;
            case 10: {
                int w = near(0, 2);
                is("told(" + w + ")", x.told(w), m.told(w));
                break;
            }
            case 11: is("shout()", x.shout(), m.shout()); break;
            case 12: case 13: {
                int n = near(0, 30);
                is("on(" + n + ", " + what + ")", x.on(n, what), m.on(n, what));
                break;
            }
            case 14: is("last(" + what + ")", x.last(what), m.last(what)); break;
            case 15: is("first(" + what + ")", x.first(what), m.first(what)); break;
            case 16: case 17: is("stand(" + p + ", " + what + ")", x.stand(p, what), m.stand(p, what)); break;
            case 18: is("best(" + p + ")", x.best(p), m.best(p)); break;
            case 19: is("need(" + p + ")", x.need(p), m.need(p)); break;
            case 20: is("hands()", x.hands(), m.hands()); break;
            case 21: is("alone(" + p + ")", x.alone(p), m.alone(p)); break;
            case 22: {
                int k = near(-1, 2);
                is("spread(" + k + ")", x.spread(k), m.spread(k));
                break;
            }
            case 23: is("behind(" + p + ", " + q + ")", x.behind(p, q), m.behind(p, q)); break;
            case 24: {
                int bits = any(2) == 0 ? m.on(1, 0) ^ m.told(1) : bits();
                is("see(" + bits + ")", x.see(bits), m.see(bits));
                break;
            }
            case 25: is("moved(" + p + ")", x.moved(p), m.moved(p)); break;
            case 26: is("odds(" + p + ", " + q + ", " + what + ")", x.odds(p, q, what), m.odds(p, q, what)); break;
            case 27: {
                int n = near(1, 30);
                is("mean(" + n + ", " + what + ")", x.mean(n, what), m.mean(n, what));
                break;
            }
            default: more(which, p, what); break;
        }
    }

    private void more(int which, int p, int what) {
        int tape = near(0, 5);
        int i = near(0, 9);
        switch (which) {
            case 28: {
                int bits = any(15) == 0 ? -1 : bits();
                is("book(" + bits + ")", x.book(bits), m.book(bits));
                break;
            }
            case 29: book(); break;
            case 30: is("looked()", x.looked(), m.looked()); break;
            case 31: is("judge(" + tape + ", " + i + ")", x.judge(tape, i), m.judge(tape, i)); break;
            case 32: judged(tape, any(5)); break;
            case 33: if (any(3) == 0) {
                is("image()", x.image(), m.image());
            }
            break;
            case 34: if (any(3) == 0) {
                is("undo()", x.undo(), m.undo());
            }
            break;
            case 35: case 36: {
                int act = near(0, 2);
                int n = near(-9, 9);
                is("act(" + p + ", " + act + ", " + n + ")", x.act(p, act, n), m.act(p, act, n));
                break;
            }
            case 37: {
                int at = near(0, 12);
                is("trace(" + at + ")", x.trace(at), m.trace(at));
                break;
            }
            case 38: {
                int k = near(0, 6);
                is("taken(" + p + ", " + k + ")", x.taken(p, k), m.taken(p, k));
                break;
            }
            case 39: {
                int w = near(0, 4);
                is("count(" + w + ")", x.count(w), m.count(w));
                break;
            }
            default: tapes(which, tape, i); break;
        }
    }

    /** Empties the book and tells the next shouts as they will be, with now and then one that is not so. */
    private void book() {
        is("book(-1)", x.book(-1), m.book(-1));
        Model.Ask ask = new Model.Ask(m.now);
        int rows = any(5);
        for (int i = 0; i < rows && calls < CALLS; i++) {
            int bits = ask.shout().stream().mapToInt(p -> 1 << p).sum();
            int told = any(8) == 0 ? bits() : bits;
            is("book(" + told + ")", x.book(told), m.book(told));
        }
    }

    /** Tells who runs on a tape, with now and then one who does not. */
    private void judged(int tape, int from) {
        int many = m.now.people.size();
        is("tape", x.tape(tape, 4, from + many), m.tape(tape, 4, from + many));
        for (int p = 0; p < many && calls < CALLS; p++) {
            long v = m.now.people.get(p).catches ^ any(15) == 0 ? 0 : 1;
            is("item", x.item(tape, from + p, v), m.item(tape, from + p, v));
        }
        int at = any(6) == 0 ? near(0, 9) : from;
        is("judge(" + tape + ", " + at + ")", x.judge(tape, at), m.judge(tape, at));
    }

    private void tapes(int which, int tape, int i) {
        if (which == 40) {
            int sort = near(-1, 4);
            int n = any(3) == 0 ? near(0, 60) : near(5, 10);
            is("tape(" + tape + ", " + sort + ", " + n + ")", x.tape(tape, sort, n), m.tape(tape, sort, n));
        } else if (which < 43) {
            long v = any(2) == 0 ? any(400) - 200 : (long) any(Integer.MAX_VALUE) * any(Integer.MAX_VALUE);
            is("item(" + tape + ", " + i + ", " + v + ")", x.item(tape, i, v), m.item(tape, i, v));
        } else if (which == 43) {
            is("read(" + tape + ", " + i + ")", x.read(tape, i), m.read(tape, i));
        } else {
            int other = any(2) == 0 ? tape : near(0, 5);
            int j = near(0, 6);
            int n = near(0, 6);
            is("shift(" + tape + ", " + i + ", " + other + ", " + j + ", " + n + ")",
                x.shift(tape, i, other, j, n), m.shift(tape, i, other, j, n));
        }
    }
}
