/** Promises 27 to 33: judging, the image, acts, kinds, counts. */
public final class JudgeImageActTest {
    private static final Due due = new Due();

    public static void main(String[] args) {
        judge();
        image();
        imageKeepsTheRest();
        acts();
        wrongActs();
        taken();
        count();
        due.end("JudgeImageActTest");
    }

    private static void judge() {
        PastCatchers x = new PastCatchers();
        due.is("nobody to look at", x.judge(0, 0), -5);
        due.is("nobody, place below", x.judge(0, -1), -5);
        due.is("no tape", x.judge(6, 0), -1);
        due.is("no tape below", x.judge(-1, 0), -1);
        x.tape(1, 0, 5);
        due.is("bytes", x.judge(1, 0), -12);
        x.person(0, 0, 0, 0, 0);
        x.person(0, 0, 0, 0, 0);
        x.person(0, 0, 0, 0, 0);
        x.catches(1, true);
        due.is("holds nothing", x.judge(0, 0), 100);
        due.is("bytes still", x.judge(1, 0), -12);
        x.tape(2, 4, 6);
        due.is("0 runs", x.judge(2, 0), 0);
        x.item(2, 1, 1);
        due.is("1 does, 2 does not: 2 is otherwise", x.judge(2, 1), 2);
        x.item(2, 3, 1);
        due.is("as it is", x.judge(2, 1), -5);
        due.is("0 is not so from 0", x.judge(2, 0), 0);
        due.is("from 3: the row ends behind all three", x.judge(2, 3), 2);
        due.is("from 4", x.judge(2, 4), 0);
        x.item(2, 4, 1);
        due.is("1 catches, but is told to run", x.judge(2, 3), 1);
        x.item(2, 5, 1);
        due.is("ends behind one", x.judge(2, 5), 101);
        x.item(2, 4, 1);
        x.item(2, 5, 0);
        due.is("ends behind two", x.judge(2, 4), 102);
        due.is("from the end", x.judge(2, 6), 100);
        due.is("beyond", x.judge(2, Integer.MAX_VALUE), 100);
        due.is("place below", x.judge(2, -1), 100);
        due.is("far below", x.judge(2, Integer.MIN_VALUE), 100);
    }

    private static void image() {
        PastCatchers x = new PastCatchers();
        due.is("no image", x.undo(), -3);
        due.is("of nobody", x.image(), 0);
        x.person(6, 1, 2, 3, 4);
        due.is("back to nobody", x.undo(), 0);
        due.is("nobody", x.of(0, 0), -1);
        x.person(6, 1, 2, 3, 4);
        x.person(0, 0, 3, 0, 9);
        x.row(0, 1, 5);
        x.catches(1, true);
        x.shout();
        x.see(1);
        x.book(2);
        Due.yard(x, "reach 3 p=1");
        due.is("two", x.image(), 2);
        x.row(0, 1, 6);
        x.set(0, 0, 0);
        x.set(0, 1, 0);
        x.catches(0, true);
        x.catches(1, false);
        x.shout();
        x.see(2);
        x.book(-1);
        x.book(3);
        x.book(3);
        Due.yard(x, "reach 4 p=1");
        x.person(0, 0, 0, 0, 0);
        due.is("two again", x.undo(), 2);
        due.is("people", x.count(0), 2);
        due.is("lane", x.of(0, 2), 2);
        due.is("strength", x.of(0, 4), 4);
        due.is("catches", x.told(2), 2);
        due.is("shout", x.told(0), 1);
        due.is("seen", x.see(0), 1);
        due.is("book", x.count(2), 1);
        due.is("yard", x.of(1, 7), 3);
        due.is("the book's rows: 2 is not caught", x.looked(), 1);
        x.book(-1);
        x.book(x.told(1) ^ x.on(1, 0));
        x.image();
        due.is("the book as it is", x.looked(), -5);
        x.book(-1);
        x.book(2);
        x.undo();
        due.is("the book as it was", x.looked(), -5);
        due.is("row", x.row(0, 1, 0), 5);
        due.is("yet again", x.undo(), 2);
        due.is("row again", x.row(0, 1, 0), 5);
        due.is("a new one is as new", x.person(6, 0, 0, 0, 0), 2);
        x.row(2, 0, 4);
        x.catches(2, true);
        x.undo();
        x.person(6, 0, 0, 0, 0);
        due.is("no row of the one before", x.row(2, 0, 0), 0);
        due.is("runs", x.of(2, 5), 0);
    }

    private static void imageKeepsTheRest() {
        PastCatchers x = new PastCatchers();
        x.person(0, 0, 0, 0, 0);
        x.catches(0, true);
        x.image();
        Due.yard(x, "reach 3 p=0");
        Due.feed(x, "hold");
        x.tape(0, 2, 3);
        x.item(0, 1, 7);
        x.act(0, 1, 2);
        x.undo();
        due.is("no yard holds", x.of(0, 7), 1);
        due.is("one yard", x.count(1), 1);
        due.is("text", x.count(3), 4);
        due.is("tape", x.read(0, 1), 7);
        due.is("trace", x.trace(0), 11);
        Due.feed(x, " 5 p=0");
        due.is("the next number", x.yard(), 1);
        due.is("holds", x.of(0, 8), 5);
    }

    private static void act(PastCatchers x, int person, int act, int argument, int want, int... trace) {
        String call = "act(" + person + ", " + act + ", " + argument + ")";
        due.is(call, x.act(person, act, argument), want);
        due.is(call + ": bodies", x.count(4), trace.length);
        for (int i = 0; i < trace.length; i++) {
            due.is(call + ": trace " + i, x.trace(i), trace[i]);
        }
        due.is(call + ": no more", x.trace(trace.length), -1);
    }

    private static void acts() {
        PastCatchers x = new PastCatchers();
        for (int kind = 0; kind < 7; kind++) {
            x.person(kind, kind + 2, 0, 0, 0);
        }
        act(x, 0, 0, 5, 5, 10);
        act(x, 0, 1, 5, 3, 11, 10);
        act(x, 0, 2, 5, 6, 12, 11, 10);
        // EDGED (i 1, v 3): 5 + 1 - 3 = 3, ^ 6 = 5.
        act(x, 1, 0, 5, 6, 10);
        act(x, 1, 1, 5, 5, 20, 11, 10);
        act(x, 1, 2, 5, 10, 12, 20, 11, 10);
        // SHIELDED (i 2, v 4): 15 + 2 = 17; 17 - 4 = 13.
        act(x, 2, 0, 5, 17, 30, 10);
        act(x, 2, 1, 5, 13, 11, 30, 10);
        act(x, 2, 2, 5, 26, 12, 11, 30, 10);
        // WAITING (i 3, v 5): holds(5) = 3, tells 6 + holds(1) = -1.
        act(x, 3, 2, 5, 5, 40, 12, 11, 10, 11, 10);
        // DASHING (i 4, v 6): runs -9; holds: runs(6) = -10, - 6 = -16, ^ 6 = -10.
        act(x, 4, 0, 5, -9, 50, 10);
        act(x, 4, 1, 5, (-16) ^ 6, 51, 20, 11, 50, 10);
        act(x, 4, 2, 5, ((-16) ^ 6) * 2, 12, 51, 20, 11, 50, 10);
        // SEEKING (i 5, v 7): tells(5): tells above with 0: holds(0) = 5 - 7 = -2, * 2.
        act(x, 5, 2, 5, -4, 60, 12, 11, 30, 10);
        // TOLD (i 6, v 8): runs(5) = 11 ^ 8 = 3; holds = 3 - 8 + 8 = 3.
        act(x, 6, 0, 5, 3, 71, 10);
        act(x, 6, 1, 5, 3, 70, 11, 71, 10, 10);
        // holds(1) = (7 ^ 8) - 8 + 8 = 15.
        act(x, 6, 2, 5, 6 + 15, 40, 12, 70, 11, 71, 10, 10, 70, 11, 71, 10, 10);
        act(x, 2, 0, Integer.MAX_VALUE, Integer.MAX_VALUE * 3 + 2, 30, 10);
        act(x, 1, 0, Integer.MAX_VALUE, Integer.MIN_VALUE, 10);
        x.catches(0, true);
        act(x, 0, 0, 5, 5, 10);
        due.is("trace(-1)", x.trace(-1), -1);
    }

    private static void wrongActs() {
        PastCatchers x = new PastCatchers();
        x.person(0, 0, 0, 0, 0);
        x.act(0, 2, 1);
        act(x, 0, 3, 1, 0);
        x.act(0, 2, 1);
        act(x, 0, -1, 1, 0);
        x.act(0, 2, 1);
        act(x, 1, 0, 1, 0);
        x.act(0, 2, 1);
        act(x, -1, 0, 1, 0);
    }

    private static void taken() {
        PastCatchers x = new PastCatchers();
        for (int kind = 0; kind < 7; kind++) {
            x.person(kind, 0, 0, 0, 0);
        }
        int[] above = {-1, 0, 0, 0, 1, 2, 3};
        for (int p = 0; p < 7; p++) {
            for (int k = 0; k < 7; k++) {
                boolean under = k == p || k == above[p] || k == 0;
                due.is("taken(" + p + ", " + k + ")", x.taken(p, k), under ? p : -12);
            }
        }
        due.is("k -1", x.taken(9, -1), -2);
        due.is("k 7", x.taken(0, 7), -2);
        due.is("nobody", x.taken(7, 0), -11);
        due.is("nobody below", x.taken(-1, 0), -11);
    }

    private static void count() {
        PastCatchers x = new PastCatchers();
        x.person(0, 0, 0, 0, 0);
        x.person(0, 0, 0, 0, 0);
        Due.yard(x, "hold 1 p=1");
        x.book(1);
        x.book(1);
        x.book(1);
        Due.feed(x, "hold");
        x.act(0, 1, 0);
        int[] want = {2, 1, 3, 4, 2};
        for (int what = 0; what < 5; what++) {
            due.is("count(" + what + ")", x.count(what), want[what]);
        }
        due.is("count(5)", x.count(5), -2);
        due.is("count(-1)", x.count(-1), -2);
    }
}
