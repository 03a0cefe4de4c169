import java.util.ArrayList;
import java.util.List;
import java.util.function.Supplier;

/** 'Answers': of several the first that a call's words name; what is refused or asked changes nothing. */
public final class ChangesNothingTest {
    private static final Due due = new Due();
    private static final long NO = PastCatchers.NO;

    private interface Call {
        long on(PastCatchers x);
    }

    public static void main(String[] args) throws Exception {
        constants();
        noSuchOne();
        refusedOnAPlainOne();
        refusedOnAFullOne();
        asked();
        due.end("ChangesNothingTest");
    }

    /** Five people, two of whom catch, and something of all else; a third yard and a second image can still come. */
    private static PastCatchers plain() {
        PastCatchers x = Due.people(17, 0, 1, 3, 2, 9, 1, 2, 2, 4, 3, 6, 3, 5, 6, 4, 2, 4, 3, 7, 2, 4, 5, 0, 1, 8);
        Due.yard(x, "reach 2 p<9;dodge 2 l=3");
        x.row(2, 1, 6);
        x.row(2, 2, 4);
        x.see(2);
        x.book(0);
        x.book(3);
        x.tape(0, 0, 3);
        x.tape(1, 4, 6);
        x.tape(2, 3, 0);
        x.tape(3, 0, 5);
        x.item(0, 1, 77);
        x.item(1, 3, 1);
        x.item(3, 4, -3);
        x.image();
        x.shout();
        x.set(3, 0, 5);
        x.catches(1, false);
        x.see(5);
        x.book(2);
        Due.yard(x, "hold 3 p=0;reach 1 p<3;reach 2 p>2");
        Due.feed(x, "ho");
        x.act(3, 2, 9);
        return x;
    }

    /** Seven people, four of whom catch, six yards, 100 bytes, 12 rows of the BOOK, and no image. */
    private static PastCatchers full() {
        PastCatchers x = Due.people(90, 0, 1, 3, 2, 9, 1, 2, 2, 4, 3, 6, 3, 5, 6, 4, 2, 4, 3, 7, 2, 4, 5, 0, 1, 8,
            3, 0, 3, 3, 3, 5, 5, 5, 5, 5);
        for (int i = 0; i < 6; i++) {
            Due.yard(x, "hold " + i + " p<9");
        }
        Due.feed(x, "x".repeat(100));
        for (int i = 0; i < 12; i++) {
            x.book(i);
        }
        return x;
    }

    private static PastCatchers fullWithRoomForYards() {
        PastCatchers x = Due.people(1, 0, 1, 3, 2, 9, 1, 2, 2, 4, 3);
        Due.yard(x, "hold 7 p<9;reach 2 p<9");
        Due.feed(x, "h".repeat(100));
        return x;
    }

    private static PastCatchers at999() {
        PastCatchers x = Due.people(1, 0, 1, 3, 2, 9, 1, 2, 2, 4, 3);
        x.catches(0, false);
        for (int i = 0; i < 999; i++) {
            x.shout();
        }
        x.catches(0, true);
        x.set(1, 1, 0);
        return x;
    }

    private static void people(PastCatchers x, List<Long> all) {
        for (int p = 0; p < 8; p++) {
            for (int what = 0; what < 10; what++) {
                all.add((long) x.of(p, what));
            }
        }
        for (int what = 0; what < 3; what++) {
            all.add((long) x.told(what));
        }
        all.add((long) x.looked());
    }

    /** All that can be seen of one; it is another one then. */
    private static List<Long> seen(PastCatchers x) {
        List<Long> all = new ArrayList<>();
        people(x, all);
        for (int what = 0; what < 5; what++) {
            all.add((long) x.count(what));
        }
        for (int i = 0; i < 13; i++) {
            all.add((long) x.trace(i));
        }
        for (int tape = 0; tape < 6; tape++) {
            for (int i = 0; i < 7; i++) {
                all.add(x.read(tape, i));
            }
            all.add((long) x.item(tape, 6, 0));
            all.add((long) x.shift(tape, 0, tape, 0, 0));
        }
        for (int p = 0; p < 7; p++) {
            for (int part = 0; part < 4; part++) {
                all.add((long) x.row(p, part, 0));
            }
        }
        all.add((long) x.see(0));
        all.add((long) x.on(3, 0));
        all.add((long) x.feed('l'));
        all.add((long) x.yard());
        all.add((long) x.shout());
        all.add((long) x.book(0));
        all.add((long) x.undo());
        people(x, all);
        return all;
    }

    /** How many answers of two differ. */
    private static long unlike(List<Long> one, List<Long> other) {
        long many = Math.abs(one.size() - other.size());
        for (int i = 0; i < one.size() && i < other.size(); i++) {
            many += one.get(i).equals(other.get(i)) ? 0 : 1;
        }
        return many;
    }

    private static void refused(String name, Supplier<PastCatchers> made, long want, Call call) {
        PastCatchers x = made.get();
        due.is(name, call.on(x), want);
        due.is(name + " again", call.on(x), want);
        due.is("what is unlike behind " + name, unlike(seen(x), seen(made.get())), 0);
    }

    private static void plainly(String name, long want, Call call) {
        refused(name, ChangesNothingTest::plain, want, call);
    }

    private static void constants() throws Exception {
        due.says("public static final int NONE = -1, BAD = -2, STATE = -3, FULL = -4;");
        due.is("NONE", PastCatchers.NONE, -1);
        due.is("BAD", PastCatchers.BAD, -2);
        due.is("STATE", PastCatchers.STATE, -3);
        due.is("FULL", PastCatchers.FULL, -4);
        due.says("The constants: `NO = Long.MIN_VALUE`: There is no such number.");
        due.is("NO", PastCatchers.NO, Long.MIN_VALUE);
        due.says("The host's refusals: NOTHING (-11): nothing is there; CAST (-12): another sort or KIND; PLACE (-13): no such"
            + " place; SIZE (-14): a size below 0.");
        PastCatchers x = plain();
        due.is("NOTHING on a tape", x.item(4, 0, 0), -11);
        due.is("NOTHING of the people", x.taken(5, 0), -11);
        due.is("CAST of sorts", x.shift(0, 0, 1, 0, 1), -12);
        due.is("CAST to booleans", x.judge(0, 0), -12);
        due.is("CAST of KINDS", x.taken(0, 1), -12);
        due.is("PLACE", x.item(0, 3, 0), -13);
        due.is("SIZE", x.tape(0, 0, -1), -14);
    }

    /** Numbers that nobody has, those among them that a shift by them would take for 0 or 1. */
    private static void noSuchOne() throws Exception {
        due.says("Answers: NONE (-1) no such number");
        PastCatchers x = plain();
        List<Long> before = seen(plain());
        for (int p : new int[] {-1, 5, 6, 7, 8, 31, 32, 33, -31, -32, 64, 256, Integer.MIN_VALUE, Integer.MAX_VALUE}) {
            for (int what = 0; what < 10; what++) {
                due.is("of " + p, x.of(p, what), -1);
            }
            due.is("set " + p, x.set(p, 0, 3), -1);
            due.is("catches " + p, x.catches(p, false), -1);
            due.is("row " + p, x.row(p, 0, 3), -1);
            due.is("stand " + p, x.stand(p, 0), -1);
            due.is("best " + p, x.best(p), -1);
            due.is("need " + p, x.need(p), -1);
            due.is("alone " + p, x.alone(p), -1);
            due.is("moved " + p, x.moved(p), -1);
            due.is("behind " + p, x.behind(p, 1), -1);
            due.is("behind one " + p, x.behind(1, p), -1);
            due.is("behind both " + p, x.behind(p, p), -1);
            due.is("odds of " + p, x.odds(p, 0, 0), NO);
            due.is("odds by " + p, x.odds(1, p, 0), NO);
            due.is("taken " + p, x.taken(p, 0), -11);
        }
        for (int tape : new int[] {-1, 6, 7, 32, 64, -6, Integer.MIN_VALUE, Integer.MAX_VALUE}) {
            due.is("tape " + tape, x.tape(tape, 0, 1), -1);
            due.is("item of " + tape, x.item(tape, 0, 1), -1);
            due.is("read of " + tape, x.read(tape, 0), NO);
            due.is("judge of " + tape, x.judge(tape, 0), -1);
            due.is("shift from " + tape, x.shift(tape, 0, 0, 0, 1), -1);
            due.is("shift to " + tape, x.shift(0, 0, tape, 0, 1), -1);
        }
        due.is("what is unlike then", unlike(seen(x), before), 0);
    }

    private static void refusedOnAPlainOne() throws Exception {
        due.says("Answers: NONE (-1) no such number; BAD (-2) a number is not as told; STATE (-3) as told; FULL (-4); the"
            + " first that a call's words name. What is answered so changes nothing");
        plainly("person: kind and all else", -1, x -> x.person(7, 10, 7, 10, 10));
        plainly("person: v", -2, x -> x.person(0, 10, 0, 0, 0));
        plainly("person: lane", -2, x -> x.person(0, 0, 7, 0, 0));
        plainly("person: pace", -2, x -> x.person(0, 0, 0, 10, 0));
        plainly("person: strength", -2, x -> x.person(0, 0, 0, 0, 10));
        plainly("of: nobody, what", -1, x -> x.of(5, 10));
        plainly("of: what", -1, x -> x.of(0, 10));
        plainly("set: nobody, lane", -1, x -> x.set(5, 0, 7));
        plainly("set: what, n", -1, x -> x.set(0, 2, 10));
        plainly("set: lane", -2, x -> x.set(0, 0, 7));
        plainly("set: strength", -2, x -> x.set(0, 1, 10));
        plainly("catches: nobody", -1, x -> x.catches(5, true));
        plainly("row: nobody", -1, x -> x.row(5, 0, 7));
        plainly("row: part", -1, x -> x.row(0, 4, 7));
        plainly("row: n", -2, x -> x.row(0, 0, 7));
        plainly("row: n of a told one", -2, x -> x.row(2, 0, 7));
        plainly("row: another kind", -3, x -> x.row(0, 0, 6));
        plainly("feed: sign", -2, x -> x.feed(128));
        plainly("feed: sign below", -2, x -> x.feed(-1));
        plainly("told: what", -1, x -> x.told(3));
        plainly("on: what, n", -1, x -> x.on(31, 2));
        plainly("on: n", -2, x -> x.on(31, 0));
        plainly("last: what", -1, x -> x.last(2));
        plainly("first: what", -1, x -> x.first(2));
        plainly("stand: what of one who runs", -1, x -> x.stand(1, 2));
        plainly("stand: nobody", -1, x -> x.stand(5, 0));
        plainly("stand: it runs", -3, x -> x.stand(1, 0));
        plainly("best: nobody", -1, x -> x.best(5));
        plainly("best: it catches", -3, x -> x.best(0));
        plainly("need: nobody", -1, x -> x.need(5));
        plainly("need: it catches", -3, x -> x.need(0));
        plainly("alone: nobody", -1, x -> x.alone(5));
        plainly("alone: it runs", -3, x -> x.alone(1));
        plainly("spread: k", -1, x -> x.spread(3));
        plainly("behind: nobody", -1, x -> x.behind(5, 5));
        plainly("behind: itself, who catches", -2, x -> x.behind(0, 0));
        plainly("behind: who catches", -3, x -> x.behind(1, 0));
        plainly("see: nobody", -2, x -> x.see(32));
        plainly("moved: nobody", -1, x -> x.moved(5));
        plainly("moved: it runs", -3, x -> x.moved(1));
        plainly("odds: nobody", NO, x -> x.odds(5, 0, 0));
        plainly("odds: by one who runs", NO, x -> x.odds(1, 2, 0));
        plainly("odds: of one who catches", NO, x -> x.odds(0, 4, 0));
        plainly("odds: part", NO, x -> x.odds(1, 0, 2));
        plainly("mean: n", NO, x -> x.mean(31, 0));
        plainly("mean: part", NO, x -> x.mean(1, 2));
        plainly("book: nobody", -2, x -> x.book(32));
        plainly("judge: tape", -1, x -> x.judge(6, 0));
        plainly("judge: bytes", -12, x -> x.judge(0, 0));
        plainly("trace: i", -1, x -> x.trace(20));
        plainly("taken: k of nobody", -2, x -> x.taken(5, 7));
        plainly("taken: nobody", -11, x -> x.taken(5, 0));
        plainly("taken: another kind", -12, x -> x.taken(0, 1));
        plainly("count: what", -2, x -> x.count(5));
        plainly("tape: tape, sort, n", -1, x -> x.tape(6, 5, -1));
        plainly("tape: sort, n", -2, x -> x.tape(0, 5, -1));
        plainly("tape: n above", -2, x -> x.tape(0, 4, 61));
        plainly("tape: n below", -14, x -> x.tape(0, 4, -1));
        plainly("item: tape", -1, x -> x.item(6, 0, 9));
        plainly("item: nothing, place", -11, x -> x.item(4, -1, 9));
        plainly("item: place", -13, x -> x.item(0, 3, 9));
        plainly("read: tape", NO, x -> x.read(6, 0));
        plainly("shift: tapes, nothing", -1, x -> x.shift(4, 0, 6, 0, 1));
        plainly("shift: nothing, place", -11, x -> x.shift(0, -1, 4, 0, 1));
        plainly("shift: unlike, place", -12, x -> x.shift(0, -1, 1, 0, 1));
        plainly("shift: place", -13, x -> x.shift(0, 0, 3, 4, 2));
        plainly("shift: n below", -13, x -> x.shift(3, 0, 0, 0, -1));
    }

    private static void refusedOnAFullOne() throws Exception {
        due.says("What is answered so changes nothing");
        refused("person: full, kind", ChangesNothingTest::full, -1, x -> x.person(7, 0, 0, 0, 0));
        refused("person: full, v", ChangesNothingTest::full, -2, x -> x.person(0, 10, 0, 0, 0));
        refused("person: full", ChangesNothingTest::full, -4, x -> x.person(6, 6, 6, 6, 6));
        refused("feed: full, sign", ChangesNothingTest::full, -2, x -> x.feed(128));
        refused("feed: full", ChangesNothingTest::full, -4, x -> x.feed('h'));
        refused("feed: full of a text", ChangesNothingTest::fullWithRoomForYards, -4, x -> x.feed('o'));
        refused("yard: full", ChangesNothingTest::full, -4, x -> x.yard());
        refused("book: full, nobody", ChangesNothingTest::full, -2, x -> x.book(128));
        refused("book: full", ChangesNothingTest::full, -4, x -> x.book(9));
        refused("spread: four, k", ChangesNothingTest::full, -1, x -> x.spread(3));
        refused("spread: four", ChangesNothingTest::full, -9, x -> x.spread(0));
        refused("undo: no image", ChangesNothingTest::full, -3, x -> x.undo());
        refused("shout: 999", ChangesNothingTest::at999, -3, x -> x.shout());
    }

    private static void asks(String name, Call call) {
        for (int i = 0; i < 3; i++) {
            Supplier<PastCatchers> made = i == 0 ? ChangesNothingTest::plain
                : i == 1 ? ChangesNothingTest::full : ChangesNothingTest::fullWithRoomForYards;
            PastCatchers x = made.get();
            due.is(name + " again", call.on(x), call.on(x));
            due.is(name + " of another", call.on(x), call.on(made.get()));
            due.is("what is unlike behind " + name, unlike(seen(x), seen(made.get())), 0);
        }
    }

    private static void asked() throws Exception {
        due.says("All that follows is asked, goes on from how all is (SHOUTS also beyond 999), and changes nothing.");
        due.says("What is answered so changes nothing; what is asked changes nothing.");
        for (int who = 0; who < 7; who++) {
            int p = who;
            for (int number = 0; number < 10; number++) {
                int what = number;
                asks("of(" + p + ", " + what + ")", x -> x.of(p, what));
            }
            asks("stand(" + p + ", 0)", x -> x.stand(p, 0));
            asks("stand(" + p + ", 1)", x -> x.stand(p, 1));
            asks("best(" + p + ")", x -> x.best(p));
            asks("need(" + p + ")", x -> x.need(p));
            asks("alone(" + p + ")", x -> x.alone(p));
            asks("moved(" + p + ")", x -> x.moved(p));
            asks("taken(" + p + ", 0)", x -> x.taken(p, 0));
            asks("judge(1, " + p + ")", x -> x.judge(1, p));
            asks("read(" + p + ", 1)", x -> x.read(p, 1));
            asks("trace(" + p + ")", x -> x.trace(p));
            for (int one = 0; one < 7; one++) {
                int q = one;
                asks("behind(" + p + ", " + q + ")", x -> x.behind(p, q));
                asks("odds(" + p + ", " + q + ", 0)", x -> x.odds(p, q, 0));
            }
        }
        for (int number = 0; number <= 30; number++) {
            int n = number;
            asks("on(" + n + ", 0)", x -> x.on(n, 0));
            asks("on(" + n + ", 1)", x -> x.on(n, 1));
            asks("mean(" + n + ", 0)", x -> x.mean(n, 0));
        }
        for (int number = -1; number < 3; number++) {
            int what = number;
            asks("told(" + what + ")", x -> x.told(what));
            asks("last(" + what + ")", x -> x.last(what));
            asks("first(" + what + ")", x -> x.first(what));
            asks("spread(" + what + ")", x -> x.spread(what));
            asks("count(" + what + ")", x -> x.count(what));
        }
        asks("hands()", x -> x.hands());
        asks("looked()", x -> x.looked());
    }
}
