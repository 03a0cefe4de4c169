/** Promises 10 to 12: shouts, and what is asked of those to come. */
public final class ShoutTest {
    private static final Due due = new Due();

    public static void main(String[] args) {
        nobody();
        whoIsCaught();
        order();
        busy();
        together();
        on();
        last();
        beyond();
        theLast();
        due.end("ShoutTest");
    }

    private static void nobody() {
        PastCatchers x = new PastCatchers();
        due.is("nobody", x.shout(), 0);
        due.is("is one more", x.told(0), 1);
        x.person(0, 0, 0, 0, 0);
        due.is("nobody catches", x.shout(), 0);
    }

    private static void whoIsCaught() {
        PastCatchers x = new PastCatchers();
        x.person(0, 0, 3, 0, 5);
        x.person(0, 0, 4, 2, 2);
        x.person(0, 0, 5, 0, 0);
        x.catches(0, true);
        due.is("5 is more than 4", x.shout(), 2);
        due.is("catches from then on", x.told(2), 3);
        due.is("the one at 5 now", x.shout(), 4);
        due.is("nobody is left", x.shout(), 0);

        PastCatchers y = new PastCatchers();
        y.person(0, 0, 3, 0, 5);
        y.person(0, 0, 4, 2, 3);
        y.catches(0, true);
        due.is("5 is no more than 5", y.shout(), 0);
        y.set(1, 1, 2);
        y.set(1, 0, 5);
        due.is("not reached", y.shout(), 0);
        y.set(1, 0, 2);
        due.is("reached", y.shout(), 2);
        due.is("four shouts", y.told(0), 3);
    }

    /** A catcher can catch once; who goes first is caught. */
    private static int caughtOf(int kindA, int paceA, int kindB, int paceB) {
        PastCatchers x = new PastCatchers();
        x.person(kindA, 0, 0, paceA, 0);
        x.person(kindB, 0, 0, paceB, 0);
        x.person(0, 0, 0, 0, 9);
        x.catches(2, true);
        Due.yard(x, "hold 20 p=2");
        return x.shout();
    }

    private static void order() {
        due.is("more pace", caughtOf(0, 3, 0, 4), 2);
        due.is("as much pace", caughtOf(0, 4, 0, 4), 1);
        due.is("waiting goes behind", caughtOf(3, 9, 0, 0), 2);
        due.is("told goes behind", caughtOf(6, 9, 1, 0), 2);
        due.is("told and waiting by pace", caughtOf(6, 3, 3, 4), 2);
        due.is("waiting and told by number", caughtOf(3, 4, 6, 4), 1);
        due.is("dashing as others", caughtOf(4, 3, 2, 4), 2);
    }

    private static void busy() {
        PastCatchers x = new PastCatchers();
        x.person(0, 0, 2, 9, 0);
        x.person(0, 0, 3, 8, 0);
        x.person(0, 0, 4, 7, 0);
        x.person(0, 0, 1, 0, 9);
        x.person(0, 0, 5, 0, 9);
        x.catches(3, true);
        x.catches(4, true);
        x.person(0, 0, 1, 0, 0);
        Due.yard(x, "reach 1 p=3;reach 2 p=4;hold 1 p=3|p=4");
        // 0 meets 3 alone: caught (10 > 9). 1 meets 4 alone: caught. 2 and 5 meet nobody free.
        due.is("each catches once: 2 and 5 run", x.on(1, 0), 36);
        due.is("two", x.on(1, 1), 2);
        Due.yard(x, "reach 1 p=3;reach 2 p=4");
        // 9 is no more than 9: 0 comes across, and nobody is busy by it.
        x.set(5, 0, 6);
        due.is("who failed is free", x.shout(), 2);
    }

    private static void together() {
        PastCatchers x = new PastCatchers();
        x.person(0, 0, 3, 9, 2);
        x.person(0, 0, 3, 8, 0);
        x.person(0, 0, 3, 0, 6);
        x.person(0, 0, 4, 0, 6);
        x.catches(2, true);
        x.catches(3, true);
        // 12 > 11: caught, and both are busy: the second comes across.
        due.is("both hold one", x.shout(), 1);
        x.set(0, 0, 0);
        due.is("then the other", x.shout(), 2);
    }

    private static PastCatchers row() {
        // One who catches at 0, one who runs on each lane from 1 to 5: each shout one more.
        PastCatchers x = new PastCatchers();
        for (int lane = 0; lane < 6; lane++) {
            x.person(0, 0, lane, 0, 9 - lane);
        }
        x.catches(0, true);
        return x;
    }

    private static void on() {
        PastCatchers x = row();
        due.is("from now", x.on(0, 0), 62);
        due.is("none", x.on(0, 1), 0);
        due.is("one", x.on(1, 0), 60);
        due.is("one caught", x.on(1, 1), 1);
        due.is("three", x.on(3, 0), 48);
        due.is("three caught", x.on(3, 1), 3);
        due.is("thirty", x.on(30, 0), 0);
        due.is("thirty caught", x.on(30, 1), 5);
        due.is("thirty one", x.on(31, 0), -2);
        due.is("below", x.on(-1, 0), -2);
        due.is("what 2", x.on(31, 2), -1);
        due.is("what -1", x.on(0, -1), -1);
        due.is("nothing changed", x.told(1), 62);
        due.is("no shout", x.told(0), 0);
    }

    private static void last() {
        PastCatchers x = row();
        due.is("who", x.last(0), 5);
        due.is("after", x.last(1), 4);
        due.is("what 2", x.last(2), -1);
        due.is("what -1", x.last(-1), -1);
        due.is("nothing changed", x.told(0), 0);
        x.catches(0, false);
        due.is("not by then", x.last(0), -5);
        due.is("never", x.last(1), -5);

        PastCatchers y = new PastCatchers();
        due.is("nobody", y.last(0), -5);
        due.is("nobody at once", y.last(1), 0);
        y.person(0, 0, 3, 0, 0);
        due.is("one alone", y.last(0), 0);
        due.is("at once", y.last(1), 0);
        y.person(0, 0, 3, 0, 0);
        y.person(0, 0, 2, 0, 9);
        y.person(0, 0, 4, 0, 9);
        y.catches(2, true);
        y.catches(3, true);
        Due.yard(y, "reach 1 p=2|p=3;hold 9 y=1;dodge 40 y=0");
        due.is("the first shout catches none", y.on(1, 1), 0);
        due.is("alone behind two", y.last(0), 1);
        due.is("two shouts", y.last(1), 2);
        y.set(0, 0, 1);
        y.set(1, 0, 5);
        due.is("both at once: nobody", y.last(0), -5);
        due.is("both at once: two shouts", y.last(1), 2);
    }

    private static void theLast() {
        PastCatchers x = new PastCatchers();
        x.person(6, 0, 0, 1, 0);
        x.person(6, 0, 0, 0, 0);
        x.person(0, 0, 6, 0, 0);
        x.person(0, 0, 3, 0, 9);
        x.catches(3, true);
        Due.yard(x, "reach 0 p=3;reach 0 p<2;dodge 30 y<9");
        x.row(0, 1, 3);
        x.row(1, 1, 3);
        // One is caught at shout 9, the other at shout 29.
        due.is("behind 30", x.last(1), 30);
        due.is("who", x.last(0), 2);
        due.is("29 are too few", x.on(29, 0), 6);
        x.person(0, 0, 6, 0, 0);
        due.is("two are left", x.last(1), -5);
        for (int i = 0; i < 999; i++) {
            x.shout();
        }
        due.is("999", x.told(0), 999);
        x.catches(1, false);
        due.is("no more shouts", x.shout(), -3);
        due.is("none was", x.told(0), 999);
        due.is("but asked", x.on(1, 0), 22);
        // 999 modulo 4 is 3, 1009 modulo 4 is 1, and both are 9 modulo 10.
        due.is("not at 999", x.on(10, 0), 22);
        due.is("at 1009", x.on(11, 0), 20);
    }

    private static void beyond() {
        PastCatchers x = new PastCatchers();
        x.person(6, 0, 0, 0, 0);
        x.person(0, 0, 3, 0, 9);
        x.catches(1, true);
        Due.yard(x, "reach 0 p=1;dodge 30 y<9");
        x.row(0, 1, 3);
        // Shout 9 is the first at which it does not dodge, and 9 modulo 4 is 1.
        due.is("not by shouts 0 to 8", x.on(9, 1), 0);
        due.is("by shout 9", x.on(10, 1), 1);
        x.row(0, 1, 0);
        x.row(0, 3, 3);
        // 9, 19, 29: 19 modulo 4 is 3.
        due.is("not by shouts 0 to 18", x.on(19, 1), 0);
        due.is("by shout 19", x.on(20, 1), 1);
    }
}
