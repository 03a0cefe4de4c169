/** Promises 1 to 6 and 9: a new object, people, who runs and who catches. */
public final class PeopleTest {
    private static final Due due = new Due();

    public static void main(String[] args) {
        aNewObject();
        person();
        ofPlain();
        ofWays();
        ofMeasures();
        set();
        catches();
        row();
        told();
        due.end("PeopleTest");
    }

    private static void aNewObject() {
        PastCatchers x = new PastCatchers();
        for (int what = 0; what < 5; what++) {
            due.is("new count(" + what + ")", x.count(what), 0);
        }
        for (int what = 0; what < 3; what++) {
            due.is("new told(" + what + ")", x.told(what), 0);
        }
        due.is("new undo()", x.undo(), -3);
        due.is("new see(0)", x.see(0), 0);
        due.is("new looked()", x.looked(), -5);
        due.is("new trace(0)", x.trace(0), -1);
        for (int tape = 0; tape < 6; tape++) {
            due.is("new item", x.item(tape, 0, 1), -11);
            due.is("new read", x.read(tape, 0), PastCatchers.NO);
        }
        due.is("NONE", PastCatchers.NONE, -1);
        due.is("BAD", PastCatchers.BAD, -2);
        due.is("STATE", PastCatchers.STATE, -3);
        due.is("FULL", PastCatchers.FULL, -4);
        due.is("NO", PastCatchers.NO, Long.MIN_VALUE);
    }

    private static void person() {
        PastCatchers x = new PastCatchers();
        due.is("lowest", x.person(0, 0, 0, 0, 0), 0);
        due.is("highest", x.person(6, 9, 6, 9, 9), 1);
        due.is("kind -1", x.person(-1, 10, 7, 10, 10), -1);
        due.is("kind 7", x.person(7, 0, 0, 0, 0), -1);
        due.is("v -1", x.person(0, -1, 0, 0, 0), -2);
        due.is("v 10", x.person(0, 10, 0, 0, 0), -2);
        due.is("lane -1", x.person(0, 0, -1, 0, 0), -2);
        due.is("lane 7", x.person(0, 0, 7, 0, 0), -2);
        due.is("pace -1", x.person(0, 0, 0, -1, 0), -2);
        due.is("pace 10", x.person(0, 0, 0, 10, 0), -2);
        due.is("strength -1", x.person(0, 0, 0, 0, -1), -2);
        due.is("strength 10", x.person(0, 0, 0, 0, 10), -2);
        due.is("none of these came", x.count(0), 2);
        for (int p = 2; p < 7; p++) {
            due.is("person " + p, x.person(p - 1, 0, 0, 0, 0), p);
        }
        due.is("the eighth", x.person(0, 0, 0, 0, 0), -4);
        due.is("bad ahead of full", x.person(0, 10, 0, 0, 0), -2);
        due.is("none ahead of full", x.person(7, 0, 0, 0, 0), -1);
        due.is("all run", x.told(1), 127);
    }

    private static void ofPlain() {
        PastCatchers x = new PastCatchers();
        x.person(4, 7, 6, 2, 3);
        int[] want = {4, 7, 6, 2, 3, 0, 6, -5, -5, 12};
        for (int what = 0; what < 10; what++) {
            due.is("of(0, " + what + ")", x.of(0, what), want[what]);
        }
        due.is("of(0, 10)", x.of(0, 10), -1);
        due.is("of(0, -1)", x.of(0, -1), -1);
        due.is("of(1, 0)", x.of(1, 0), -1);
        due.is("of(-1, 0)", x.of(-1, 0), -1);
        due.is("of(max, 0)", x.of(Integer.MAX_VALUE, 0), -1);
        x.catches(0, true);
        int[] caught = {4, 7, 6, 2, 3, 1, -5, 1, 3, -5};
        for (int what = 0; what < 10; what++) {
            due.is("catching of(0, " + what + ")", x.of(0, what), caught[what]);
        }
    }

    private static void ofWays() {
        PastCatchers x = new PastCatchers();
        x.person(0, 1, 2, 3, 4);
        x.person(1, 0, 3, 0, 0);
        x.person(1, 0, 4, 0, 0);
        x.person(2, 0, 5, 0, 9);
        x.person(3, 0, 1, 0, 4);
        x.person(4, 7, 3, 2, 3);
        x.person(5, 0, 3, 0, 0);
        int[] want = {2, 0, 6, 2, 1, 0, 3};
        for (int p = 0; p < 7; p++) {
            due.is("way of " + p, x.of(p, 6), want[p]);
        }
        x.set(4, 1, 5);
        due.is("behind a stronger one", x.of(3, 6), 1);
        x.catches(4, true);
        due.is("one who catches shields nobody", x.of(3, 6), 2);
        // The one at 1 reaches lanes 0 to 2: 3 is reached by nobody.
        due.is("seeks its own lane", x.of(6, 6), 3);
        x.set(4, 0, 3);
        // 2, 3, 4 are reached; 1 and 5 are as near: the lesser.
        due.is("seeks the nearest, then the least", x.of(6, 6), 1);
        x.set(6, 0, 4);
        due.is("seeks the nearest", x.of(6, 6), 5);
        x.set(6, 0, 0);
        due.is("seeks its own lane 0", x.of(6, 6), 0);

        PastCatchers y = new PastCatchers();
        y.person(2, 0, 5, 0, 9);
        due.is("nobody to hide behind", y.of(0, 6), 5);
        y.person(6, 0, 4, 0, 0);
        due.is("a row of nothing", y.of(1, 6), 0);
        y.row(1, 0, 5);
        y.row(1, 1, 6);
        y.row(1, 3, 2);
        due.is("told at shout 0", y.of(1, 6), 5);
        due.is("hides behind the lane, not the way", y.of(0, 6), 4);
        y.shout();
        due.is("told at shout 1", y.of(1, 6), 6);
        y.shout();
        due.is("told at shout 2", y.of(1, 6), 0);
        y.shout();
        due.is("told at shout 3", y.of(1, 6), 2);
        y.shout();
        due.is("told at shout 4", y.of(1, 6), 5);

        PastCatchers z = new PastCatchers();
        z.person(5, 0, 6, 0, 0);
        z.person(0, 0, 1, 0, 0);
        z.person(0, 0, 5, 0, 0);
        z.person(0, 0, 3, 0, 0);
        z.catches(1, true);
        z.catches(2, true);
        z.catches(3, true);
        // 0 1 1 2 2 1 1 .. by lanes 0..6: 0-2 once, 2-4 once, 4-6 once.
        due.is("the fewest, that nearest", z.of(0, 6), 6);
        Due.yard(z, "reach 9 p=1");
        // All are reached by one: none is better than its own.
        due.is("all alike", z.of(0, 6), 6);
    }

    private static void ofMeasures() {
        PastCatchers x = new PastCatchers();
        x.person(0, 0, 3, 5, 4);
        x.person(1, 0, 5, 6, 2);
        x.catches(0, true);
        due.is("reach without clauses", x.of(0, 7), 1);
        due.is("hold without clauses", x.of(0, 8), 4);
        due.is("slip without clauses", x.of(1, 9), 8);
        Due.yard(x, "hold 3 l=3;dodge 10 l=6");
        due.is("reach without reach clauses", x.of(0, 7), 1);
        due.is("hold and a clause", x.of(0, 8), 7);
        due.is("dodge looks at the way", x.of(1, 9), 18);
        x.catches(1, true);
        due.is("hold looks at the lane", x.of(1, 8), 2);
        Due.yard(x, "reach 2 s=4;reach 3 a=5;reach 4 k=1");
        due.is("reach clauses together", x.of(0, 7), 5);
        due.is("another one's", x.of(1, 7), 4);
        Due.yard(x, "reach 2 p=6");
        due.is("no reach clause holds", x.of(0, 7), 0);
    }

    private static void set() {
        PastCatchers x = new PastCatchers();
        x.person(0, 1, 2, 3, 4);
        due.is("lane", x.set(0, 0, 6), 2);
        due.is("lane is", x.of(0, 2), 6);
        due.is("lane again", x.set(0, 0, 0), 6);
        due.is("strength", x.set(0, 1, 9), 4);
        due.is("strength is", x.of(0, 4), 9);
        due.is("lane 7", x.set(0, 0, 7), -2);
        due.is("lane -1", x.set(0, 0, -1), -2);
        due.is("strength 10", x.set(0, 1, 10), -2);
        due.is("strength -1", x.set(0, 1, -1), -2);
        due.is("strength 7 is a strength", x.set(0, 1, 7), 9);
        due.is("what 2", x.set(0, 2, 99), -1);
        due.is("what -1", x.set(0, -1, 0), -1);
        due.is("nobody", x.set(1, 0, 99), -1);
        due.is("nobody below", x.set(-1, 0, 0), -1);
        due.is("lane stays", x.of(0, 2), 0);
        due.is("strength stays", x.of(0, 4), 7);
    }

    private static void catches() {
        PastCatchers x = new PastCatchers();
        x.person(0, 0, 0, 0, 0);
        x.person(0, 0, 0, 0, 0);
        due.is("ran", x.catches(1, true), 0);
        due.is("who catches", x.told(2), 2);
        due.is("caught", x.catches(1, true), 1);
        due.is("caught until now", x.catches(1, false), 1);
        due.is("runs", x.catches(1, false), 0);
        due.is("who runs", x.told(1), 3);
        due.is("nobody", x.catches(2, true), -1);
        due.is("nobody below", x.catches(-1, true), -1);
        due.is("nobody catches", x.told(2), 0);
    }

    private static void row() {
        PastCatchers x = new PastCatchers();
        x.person(6, 0, 0, 0, 0);
        x.person(3, 0, 0, 0, 0);
        due.is("first", x.row(0, 0, 6), 0);
        due.is("again", x.row(0, 0, 5), 6);
        due.is("another part", x.row(0, 3, 1), 0);
        due.is("part 4", x.row(0, 4, 99), -1);
        due.is("part -1", x.row(0, -1, 0), -1);
        due.is("nobody", x.row(2, 0, 99), -1);
        due.is("lane 7", x.row(0, 0, 7), -2);
        due.is("lane -1", x.row(0, 0, -1), -2);
        due.is("another kind", x.row(1, 0, 0), -3);
        due.is("bad ahead of another kind", x.row(1, 0, 7), -2);
        due.is("none ahead of another kind", x.row(1, 4, 0), -1);
        due.is("nothing changed", x.row(0, 0, 0), 5);
    }

    private static void told() {
        PastCatchers x = new PastCatchers();
        for (int p = 0; p < 4; p++) {
            x.person(0, 0, p, 9, 9);
        }
        x.catches(2, true);
        x.shout();
        due.is("shout", x.told(0), 1);
        due.is("runs", x.told(1), 11);
        due.is("catches", x.told(2), 4);
        due.is("what 3", x.told(3), -1);
        due.is("what -1", x.told(-1), -1);
    }
}
