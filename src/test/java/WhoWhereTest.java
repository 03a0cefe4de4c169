/** Promises 13 to 22: who should catch, where one should stand, run or hide. */
public final class WhoWhereTest {
    private static final Due due = new Due();

    public static void main(String[] args) {
        first();
        stand();
        best();
        need();
        hands();
        alone();
        spread();
        behind();
        see();
        moved();
        due.end("WhoWhereTest");
    }

    private static void first() {
        PastCatchers x = new PastCatchers();
        due.is("nobody: who", x.first(0), -5);
        due.is("nobody: how many", x.first(1), -5);
        x.person(0, 0, 0, 0, 9);
        due.is("one alone", x.first(0), 0);
        due.is("one alone: none", x.first(1), 0);
        x.person(0, 0, 3, 0, 9);
        x.person(0, 0, 4, 0, 1);
        x.person(0, 0, 6, 0, 9);
        due.is("the one by whom the weak one is caught", x.first(0), 1);
        due.is("one", x.first(1), 1);
        x.catches(1, true);
        due.is("among who run", x.first(0), 0);
        due.is("one anyway", x.first(1), 1);
        x.set(3, 0, 2);
        due.is("what 2", x.first(2), -1);
        due.is("what -1", x.first(-1), -1);
        x.catches(0, true);
        x.catches(2, true);
        x.catches(3, true);
        due.is("all catch", x.first(0), -5);
        due.is("all catch: how many", x.first(1), -5);
        due.is("nothing changed", x.told(2), 15);
    }

    private static void stand() {
        PastCatchers x = new PastCatchers();
        x.person(0, 0, 0, 0, 9);
        x.person(0, 0, 4, 0, 2);
        x.person(0, 0, 6, 0, 2);
        due.is("it runs", x.stand(0, 0), -3);
        due.is("nobody", x.stand(3, 0), -1);
        due.is("what 2", x.stand(0, 2), -1);
        due.is("what -1", x.stand(0, -1), -1);
        x.catches(0, true);
        due.is("least of 3, 4, 5, 6", x.stand(0, 0), 3);
        due.is("one", x.stand(0, 1), 1);
        Due.yard(x, "hold 1 l=5;dodge 7 p>0");
        due.is("where it holds hardest", x.stand(0, 0), 5);
        Due.yard(x, "dodge 9 p>0");
        due.is("none from anywhere", x.stand(0, 0), 0);
        due.is("how many", x.stand(0, 1), 0);
        Due.yard(x, "hold 50 l=7;reach 9 p=0;dodge 40 p>0");
        due.is("no lane 7", x.stand(0, 0), 0);
        due.is("lane stays", x.of(0, 2), 0);
    }

    private static void best() {
        PastCatchers x = new PastCatchers();
        x.person(1, 0, 2, 0, 3);
        x.person(0, 0, 4, 0, 9);
        due.is("nobody catches", x.best(0), 127);
        due.is("nobody", x.best(2), -1);
        x.catches(1, true);
        due.is("not 3, 4, 5", x.best(0), 71);
        Due.yard(x, "dodge 6 l=4");
        due.is("it dodges in 4", x.best(0), 87);
        due.is("catches", x.best(1), -3);
        x.set(1, 0, 0);
        due.is("not 0, 1", x.best(0), 124);
        x.set(1, 0, 4);
        x.person(0, 0, 3, 9, 0);
        x.set(1, 1, 9);
        Due.yard(x, "hold 1 p=1");
        // The one at 3 goes first, and holds the catcher busy.
        due.is("another one is caught first", x.best(0), 127);
    }

    private static void need() {
        PastCatchers x = new PastCatchers();
        x.person(0, 0, 3, 2, 9);
        x.person(0, 0, 3, 0, 6);
        x.catches(1, true);
        due.is("4 and 2 are 6", x.need(0), 4);
        Due.yard(x, "dodge 20 s=2");
        due.is("2 dodges", x.need(0), 2);
        Due.yard(x, "dodge 20 s=9;hold 10 p=1");
        due.is("9", x.need(0), 9);
        Due.yard(x, "hold 30 p=1");
        due.is("by none", x.need(0), -5);
        due.is("catches", x.need(1), -3);
        due.is("nobody", x.need(2), -1);
        due.is("nobody below", x.need(-1), -1);
        due.is("strength stays", x.of(0, 4), 9);
        x.set(0, 0, 6);
        due.is("not reached", x.need(0), 0);

        // 0 needs to be the strongest, so that the shielded one comes to it and holds the catcher busy.
        PastCatchers y = new PastCatchers();
        y.person(0, 0, 3, 0, 0);
        y.person(2, 0, 0, 9, 0);
        y.person(0, 0, 6, 0, 5);
        y.person(0, 0, 3, 0, 9);
        y.catches(3, true);
        Due.yard(y, "hold 9 p=3");
        due.is("as strong draws the shielded one", y.need(0), 5);
    }

    private static void hands() {
        PastCatchers x = new PastCatchers();
        due.is("nobody", x.hands(), -5);
        x.person(0, 0, 0, 3, 5);
        x.person(0, 0, 6, 2, 3);
        x.person(3, 0, 6, 9, 0);
        due.is("nobody catches", x.hands(), -5);
        x.person(0, 0, 3, 0, 3);
        x.person(0, 0, 3, 0, 3);
        x.catches(3, true);
        x.catches(4, true);
        // 6 holds neither 8 nor .. but 5: the second.
        due.is("the second", x.hands(), 1);
        x.set(1, 1, 9);
        due.is("waiting has slip 9", x.hands(), -5);
        x.set(0, 1, 2);
        due.is("the first", x.hands(), 0);
        due.is("reach is as it was", x.of(3, 7), 1);
        due.is("and the next shout, too", x.on(1, 1), 0);

        // If all lanes are reached, one who seeks keeps its own.
        PastCatchers y = new PastCatchers();
        y.person(5, 0, 3, 0, 0);
        y.person(0, 0, 3, 0, 9);
        y.catches(1, true);
        Due.yard(y, "dodge 20 l=3");
        due.is("its own lane", y.hands(), -5);
        Due.yard(y, "dodge 20 l=1");
        due.is("not the lane that it seeks now", y.hands(), 0);
    }

    private static void alone() {
        PastCatchers x = new PastCatchers();
        x.person(0, 0, 3, 0, 5);
        x.person(0, 0, 4, 0, 4);
        x.person(0, 0, 2, 0, 3);
        due.is("it runs", x.alone(1), -3);
        x.catches(1, true);
        x.catches(2, true);
        due.is("both hold it", x.on(1, 1), 1);
        due.is("4 alone", x.alone(1), 0);
        due.is("3 alone", x.alone(2), 0);
        x.set(1, 1, 6);
        due.is("6 alone", x.alone(1), 1);
        due.is("nobody", x.alone(3), -1);
        due.is("the others are still there", x.told(2), 6);
        x.set(1, 1, 4);
        x.alone(1);
        due.is("the next shout is as it was", x.on(1, 1), 1);

        // One who seeks flees from the one alone.
        PastCatchers y = new PastCatchers();
        y.person(5, 0, 3, 0, 0);
        y.person(0, 0, 0, 0, 9);
        y.person(0, 0, 6, 0, 9);
        y.catches(1, true);
        y.catches(2, true);
        Due.yard(y, "reach 6 p=1;reach 0 p=2");
        // With both, lanes 0 to 5 are reached once, 6 twice: it stays at 3.
        due.is("all lanes by one", y.alone(1), 1);
        due.is("lane 6 by one", y.alone(2), 0);
        Due.yard(y, "reach 1 p=1;reach 2 p=2;dodge 40 l=3");
        due.is("it stays at 3", y.alone(1), 0);
    }

    private static void spread() {
        PastCatchers x = new PastCatchers();
        due.is("nobody", x.spread(-1), 0);
        due.is("no row", x.spread(0), -5);
        due.is("k -2", x.spread(-2), -1);
        due.is("k 3", x.spread(3), -1);
        x.person(0, 0, 6, 0, 9);
        x.person(0, 0, 1, 0, 0);
        x.person(0, 0, 5, 0, 0);
        x.person(0, 0, 6, 0, 9);
        x.catches(0, true);
        due.is("one", x.spread(-1), 1);
        due.is("its lane", x.spread(0), 0);
        due.is("there is one", x.spread(1), -5);
        x.catches(3, true);
        due.is("two", x.spread(-1), 2);
        due.is("first as a row: the first", x.spread(0), 0);
        due.is("first as a row: the second", x.spread(1), 4);
        due.is("there are two", x.spread(2), -5);
        due.is("lane stays", x.of(0, 2), 6);
        Due.yard(x, "hold 1 p=3&l=2|p=0&l=6;dodge 9 p>0");
        due.is("two by the yard", x.spread(-1), 2);
        due.is("the first at 6", x.spread(0), 6);
        due.is("the second at 2", x.spread(1), 2);
        x.catches(1, true);
        // 9 is no more than 9: the first and the third hold it together, from 4 on.
        due.is("three: the first", x.spread(0), 4);
        due.is("three: the second", x.spread(1), 0);
        due.is("three: the third", x.spread(2), 4);
        x.catches(2, true);
        due.is("four", x.spread(-1), -9);
        due.is("four: k", x.spread(0), -9);
        due.is("none ahead", x.spread(3), -1);
    }

    private static void behind() {
        PastCatchers x = new PastCatchers();
        x.person(0, 0, 3, 9, 0);
        x.person(0, 0, 4, 0, 0);
        x.person(0, 0, 3, 0, 9);
        x.person(0, 0, 0, 5, 0);
        x.catches(2, true);
        Due.yard(x, "hold 9 p=2");
        due.is("0 is caught now", x.on(1, 0), 10);
        due.is("behind 1 it comes across", x.behind(0, 1), 1);
        due.is("1 behind 0", x.behind(1, 0), 1);
        due.is("0 in the way of 3 is not reached", x.behind(0, 3), 1);
        due.is("3 behind 1: 0 is caught first", x.behind(3, 1), 1);
        x.set(1, 0, 1);
        x.set(2, 0, 2);
        x.set(3, 0, 6);
        x.set(1, 1, 9);
        x.set(2, 1, 4);
        x.set(0, 1, 3);
        // 1 at 1 has 9 and is held by 13: 2 is busy when 0 comes.
        due.is("0 behind 1, who is held", x.behind(0, 1), 1);
        Due.yard(x, "hold 9 p=2;dodge 5 p=1;dodge 40 p=0&l=3");
        due.is("0 behind 1, who is not held", x.behind(0, 1), 0);
        Due.yard(x, "hold 9 p=2");
        x.set(1, 0, 4);
        x.set(1, 1, 0);
        x.set(2, 0, 3);
        x.set(2, 1, 9);
        x.set(3, 0, 0);
        x.set(0, 0, 6);
        due.is("3 behind 1: 1 is caught first", x.behind(3, 1), 1);
        due.is("3 behind 0: away", x.behind(3, 0), 1);
        x.set(1, 0, 1);
        due.is("nobody is reached", x.behind(3, 1), 1);
        x.set(2, 0, 2);
        x.set(1, 1, 9);
        Due.yard(x, "hold 0 p=2");
        // 1 at 1 has 9: it comes across; 3 behind it, in its way, has 5: caught.
        due.is("behind one who is not held", x.behind(3, 1), 0);
        due.is("the same one", x.behind(0, 0), -2);
        due.is("the same one who catches", x.behind(2, 2), -2);
        due.is("first catches", x.behind(2, 0), -3);
        due.is("second catches", x.behind(0, 2), -3);
        due.is("nobody", x.behind(4, 4), -1);
        due.is("nobody first", x.behind(4, 0), -1);
        due.is("nobody second", x.behind(0, -1), -1);
        Due.yard(x, "dodge 9 p=3&l=1");
        due.is("dodges in the way of the other", x.behind(3, 1), 1);
    }

    private static void see() {
        PastCatchers x = new PastCatchers();
        due.is("bits of nobody", x.see(1), -2);
        x.person(0, 0, 0, 0, 0);
        x.person(0, 0, 0, 0, 0);
        due.is("all", x.see(3), 0);
        due.is("a third", x.see(4), -2);
        due.is("below", x.see(-1), -2);
        due.is("none", x.see(0), 3);
        due.is("again", x.see(2), 0);
    }

    private static void moved() {
        PastCatchers x = new PastCatchers();
        x.person(0, 0, 6, 0, 5);
        x.person(0, 0, 1, 0, 0);
        x.person(0, 0, 3, 0, 0);
        due.is("it runs", x.moved(0), -3);
        due.is("nobody", x.moved(3), -1);
        x.catches(0, true);
        due.is("none is caught from 5, 6", x.moved(0), 96);
        x.see(2);
        // From 2 it reaches both; 1 goes first.
        due.is("1 is caught from 0, 1, 2", x.moved(0), 7);
        x.see(4);
        due.is("2 is caught from 3, 4", x.moved(0), 24);
        x.see(6);
        due.is("both from nowhere", x.moved(0), 0);
        x.see(1);
        due.is("one who catches is not caught", x.moved(0), 0);
        due.is("lane stays", x.of(0, 2), 6);
    }
}
