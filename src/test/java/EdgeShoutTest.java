/** The edges of 'Terms', part 1: REACH, HOLD, SLIP, WAY, and what a SHOUT does; promises 3 to 6, 9 to 12. */
public final class EdgeShoutTest {
    private static final Due due = new Due();

    public static void main(String[] args) throws Exception {
        reach();
        holdAndSlip();
        edgedAndDashing();
        shielded();
        seeking();
        toldRows();
        reaches();
        order();
        heldOrNot();
        busy();
        caughtCatchLater();
        asAheadOfTheShout();
        counts();
        ofAndSet();
        beyond();
        on();
        last();
        due.end("EdgeShoutTest");
    }

    private static void reach() throws Exception {
        due.says("REACH of one who catches: the n of all reach whose E holds, together (1, if there are no reach CLAUSES"
            + " at all).");
        PastCatchers x = Due.people(3, 0, 0, 0, 0, 0, 0, 0, 0, 0, 0);
        due.is("no yard", x.of(0, 7), 1);
        Due.yard(x, "hold 3 p=0;dodge 3 p=0");
        due.is("no reach clauses", x.of(0, 7), 1);
        Due.yard(x, "reach 3 p=1");
        due.is("none that holds", x.of(0, 7), 0);
        due.is("one that holds", x.of(1, 7), 3);
        Due.yard(x, "reach 0 p=1");
        due.is("0", x.of(1, 7), 0);
        Due.yard(x, "reach 99 p<2;reach 99 p=1;reach 99 p=0;reach 99 p>0");
        due.is("two together", x.of(0, 7), 198);
        due.is("three together", x.of(1, 7), 297);
    }

    private static void holdAndSlip() throws Exception {
        due.says("HOLD of it: STRENGTH, and the n of all hold whose E holds, together.");
        PastCatchers x = Due.people(1, 0, 9, 0, 8, 7, 4, 9, 0, 8, 7, 0, 9, 0, 8, 7);
        due.is("strength alone", x.of(0, 8), 7);
        Due.yard(x, "hold 99 p=0;hold 99 p<3;hold 99 p=1");
        due.is("two together", x.of(0, 8), 205);
        due.says("SLIP of one who runs: STRENGTH and PACE, and the n of all dodge whose E holds, together; DASHING: v"
            + " more.");
        due.is("dashing", x.of(1, 9), 24);
        due.is("another one", x.of(2, 9), 15);
        Due.yard(x, "dodge 99 p=2;dodge 99 p>0;dodge 1 p=0");
        due.is("dashing dodges, too", x.of(1, 9), 123);
        due.is("two together", x.of(2, 9), 213);
        due.is("a dashing one of v 0", Due.people(0, 4, 0, 0, 0, 0).of(0, 9), 0);
        for (int kind = 0; kind < 7; kind++) {
            due.is("v of kind " + kind, Due.people(0, kind, 9, 0, 1, 2).of(0, 9), kind == 4 ? 12 : 3);
        }
    }

    private static void edgedAndDashing() throws Exception {
        due.says("EDGED, DASHING: 0, if its LANE is 3 or less, else 6.");
        for (int lane = 0; lane < 7; lane++) {
            PastCatchers x = Due.people(0, 1, 0, lane, 0, 0, 4, 0, lane, 0, 0);
            due.is("edged on " + lane, x.of(0, 6), lane <= 3 ? 0 : 6);
            due.is("dashing on " + lane, x.of(1, 6), lane <= 3 ? 0 : 6);
        }
        due.says("WAY of one who runs: the LANE in which it does: RUNNER, WAITING: LANE.");
        for (int lane = 0; lane < 7; lane++) {
            PastCatchers x = Due.people(0, 0, 0, lane, 0, 0, 3, 0, lane, 0, 0);
            due.is("runner on " + lane, x.of(0, 6), lane);
            due.is("waiting on " + lane, x.of(1, 6), lane);
        }
    }

    private static void shielded() throws Exception {
        due.says("SHIELDED: LANE of the strongest of all others who run (of several the first; its own, if there is"
            + " none).");
        PastCatchers x = Due.people(0, 2, 0, 5, 0, 9);
        due.is("nobody else", x.of(0, 6), 5);
        x.person(0, 0, 1, 0, 9);
        x.catches(1, true);
        due.is("none else who runs", x.of(0, 6), 5);
        x.person(1, 0, 2, 0, 0);
        due.is("one of strength 0: its lane, not its way", x.of(0, 6), 2);
        x.person(0, 0, 3, 0, 0);
        due.is("of two the first", x.of(0, 6), 2);
        x.set(3, 1, 1);
        due.is("the stronger", x.of(0, 6), 3);
        x.set(2, 1, 1);
        due.is("of two the first again", x.of(0, 6), 2);
        x.catches(1, false);
        due.is("one who runs again", x.of(0, 6), 1);
        x.person(2, 0, 6, 0, 0);
        due.is("another shielded one: of two as strong the first", x.of(4, 6), 5);
        due.is("not itself", x.of(0, 6), 1);
        for (int p = 0; p < 7; p++) {
            PastCatchers y = new PastCatchers();
            for (int q = 0; q < 7; q++) {
                y.person(2, 0, q, 0, q == p ? 9 : 1);
            }
            due.is(p + ", the strongest, is behind the first of the others", y.of(p, 6), p == 0 ? 1 : 0);
            due.is("the last others are behind " + p, y.of(p == 6 ? 5 : 6, 6), p);
            y.set(p == 6 ? 5 : 6, 1, 2);
            due.is(p + " is behind the strongest of the others", y.of(p, 6), p == 6 ? 5 : 6);
        }
    }

    private static void seeking() throws Exception {
        due.says("SEEKING: the LANE that the fewest who catch REACH (of several that which is nearest to its own LANE,"
            + " then the least).");
        for (int lane = 0; lane < 7; lane++) {
            due.is("none catches", Due.people(0, 5, 0, lane, 0, 0).of(0, 6), lane);
        }
        // One on lane 3 reaches 2, 3, 4.
        int[] want = {0, 1, 1, 1, 5, 5, 6};
        for (int lane = 0; lane < 7; lane++) {
            due.is("from " + lane, Due.people(2, 5, 0, lane, 0, 0, 0, 0, 3, 0, 0).of(0, 6), want[lane]);
        }
        PastCatchers x = Due.people(30, 5, 0, 2, 0, 0, 0, 0, 0, 0, 0, 0, 0, 3, 0, 0, 0, 0, 5, 0, 0, 0, 0, 3, 0, 0);
        // By lanes: 1 1 2 2 3 1 1: of 0, 1, 5, 6 the nearest to 2.
        due.is("the fewest are one", x.of(0, 6), 1);
        x.set(0, 0, 3);
        due.is("1 and 5 are as near: the least", x.of(0, 6), 1);
        x.set(0, 0, 4);
        due.is("nearest to 4", x.of(0, 6), 5);
        Due.yard(x, "reach 9 p>0");
        due.is("all by all", x.of(0, 6), 4);
        Due.yard(x, "reach 0 p>0");
        due.is("each its own lane alone", x.of(0, 6), 4);
        x.set(0, 0, 3);
        due.is("3 has two, 2 and 4 have none: the least", x.of(0, 6), 2);
        Due.yard(x, "reach 6 p=1;reach 3 p=2;reach 5 p=3;reach 2 p=4");
        // By lanes: 3 4 4 4 4 4 3, of them 0 and 6 as far from 3: the least.
        due.is("0 and 6 are as far", x.of(0, 6), 0);
        x.catches(3, false);
        due.is("one who runs reaches nothing", x.of(0, 6), 0);
    }

    private static void toldRows() throws Exception {
        due.says("TOLD: its ROW (four LANES; 0 at first) at SHOUT modulo 4.");
        PastCatchers x = Due.people(0, 6, 0, 3, 0, 0, 6, 0, 3, 0, 0, 3, 0, 3, 0, 0);
        for (int part = 0; part < 4; part++) {
            due.is("0 at first", x.row(0, part, 6 - part), 0);
        }
        for (int shout = 0; shout < 9; shout++) {
            due.is("at shout " + shout, x.of(0, 6), 6 - shout % 4);
            due.is("the other at shout " + shout, x.of(1, 6), 0);
            x.shout();
        }
        PastCatchers y = Due.people(0, 6, 0, 0, 0, 0, 6, 0, 0, 0, 0, 6, 0, 0, 0, 0, 6, 0, 0, 0, 0, 6, 0, 0, 0, 0,
            6, 0, 0, 0, 0, 6, 0, 0, 0, 0);
        for (int p = 0; p < 7; p++) {
            for (int part = 0; part < 4; part++) {
                y.row(p, part, (p + 2 * part) % 7);
            }
        }
        for (int shout = 0; shout < 5; shout++) {
            for (int p = 0; p < 7; p++) {
                due.is("each its own, " + p + " at shout " + shout, y.of(p, 6), (p + 2 * (shout % 4)) % 7);
            }
            y.shout();
        }
        due.says("The ROW of a TOLD one becomes a LANE for SHOUTS modulo 4 being part: what it was. NONE: person, part;"
            + " BAD: n; STATE: another KIND.");
        due.is("part -1", x.row(0, -1, 0), -1);
        due.is("part 4", x.row(0, 4, 0), -1);
        due.is("nobody", x.row(3, 0, 0), -1);
        due.is("n -1", x.row(0, 0, -1), -2);
        due.is("n 7", x.row(0, 0, 7), -2);
        due.is("another kind", x.row(2, 0, 0), -3);
        due.is("nobody ahead of a bad n", x.row(3, 0, 7), -1);
        due.is("no part ahead of a bad n", x.row(2, 4, 7), -1);
        due.is("a bad n ahead of another kind", x.row(2, 3, 7), -2);
        due.is("as it was", x.row(0, 3, 0), 3);
        x.catches(0, true);
        due.is("of one who catches, too", x.row(0, 3, 5), 0);
        due.is("what it was", x.row(0, 3, 5), 5);
        due.is("the other's", x.row(1, 3, 5), 0);
    }

    private static void reaches() throws Exception {
        due.says("One who catches REACHES a LANE, if that is no more than REACH away from its own LANE.");
        for (int reach = 0; reach < 8; reach++) {
            for (int lane = 0; lane < 7; lane++) {
                PastCatchers x = Due.people(1, 0, 0, 2, 0, 9, 0, 0, lane, 0, 0);
                Due.yard(x, "reach " + reach + " p=0");
                due.is(reach + " from 2 to " + lane, x.on(1, 1), Math.abs(lane - 2) <= reach ? 1 : 0);
            }
        }
    }

    /** Who of two is caught by one who can catch once. */
    private static int first(int kind, int pace, int otherKind, int otherPace) {
        PastCatchers x = Due.people(4, kind, 0, 0, pace, 0, otherKind, 0, 0, otherPace, 0, 0, 0, 0, 0, 9);
        Due.yard(x, "hold 99 p=2;reach 9 p=2");
        return x.shout();
    }

    private static void order() throws Exception {
        due.says("A SHOUT: all who run go one behind the other: WAITING, TOLD ones behind all others; else who has more"
            + " PACE first (of several the lesser number).");
        for (int kind = 0; kind < 7; kind++) {
            for (int other = 0; other < 7; other++) {
                boolean late = kind == 3 || kind == 6;
                boolean otherLate = other == 3 || other == 6;
                String both = kind + " and " + other;
                due.is(both + " as fast", first(kind, 5, other, 5), late && !otherLate ? 2 : 1);
                due.is(both + " the first faster", first(kind, 6, other, 5), late && !otherLate ? 2 : 1);
                due.is(both + " the other faster", first(kind, 5, other, 6), otherLate && !late ? 1 : 2);
                due.is(both + " far faster", first(kind, 9, other, 0), late && !otherLate ? 2 : 1);
                due.is(both + " the other far faster", first(kind, 0, other, 9), otherLate && !late ? 1 : 2);
            }
        }
    }

    private static void heldOrNot() throws Exception {
        due.says("Each meets all who catch, are not BUSY, and REACH its WAY: if their HOLD, together, is more than its SLIP,"
            + " it is CAUGHT, and all these are BUSY for this SHOUT. Else it comes across.");
        for (int slip = 0; slip < 10; slip++) {
            PastCatchers x = Due.people(6, 0, 0, 3, 4, slip, 0, 0, 2, 0, 4, 0, 0, 4, 0, 5);
            due.is("9 and " + (slip + 4), x.on(1, 1), slip + 4 < 9 ? 1 : 0);
            x.set(1, 0, 1);
            due.is("5 and " + (slip + 4), x.on(1, 1), slip + 4 < 5 ? 1 : 0);
            x.set(2, 0, 5);
            due.is("none and " + (slip + 4), x.on(1, 1), 0);
        }
        due.is("0 is no more than 0", Due.people(2, 0, 0, 3, 0, 0, 0, 0, 3, 0, 0).shout(), 0);
        due.is("1 is more than 0", Due.people(2, 0, 0, 3, 0, 0, 0, 0, 3, 0, 1).shout(), 1);
    }

    private static void busy() throws Exception {
        due.says("it is CAUGHT, and all these are BUSY for this SHOUT. Else it comes across.");
        // Two who catch on 3 hold 8: the first has 9, the second 7, the third 0.
        PastCatchers x = Due.people(24, 0, 0, 3, 9, 0, 0, 0, 3, 7, 0, 0, 0, 3, 0, 0, 0, 0, 3, 0, 4, 0, 0, 3, 0, 4);
        due.is("the second, and then nobody is free", x.shout(), 2);
        due.is("at the next shout they are free: the third", x.shout(), 4);
        due.is("8 is never more than 9", x.shout(), 0);
        // One beside is not met, and stays free.
        PastCatchers y = Due.people(24, 0, 0, 3, 9, 0, 0, 0, 5, 0, 0, 0, 0, 3, 0, 0, 0, 0, 3, 0, 9, 0, 0, 5, 0, 9);
        Due.yard(y, "hold 1 p=3");
        due.is("each of those who catch one", y.shout(), 3);
        // Busy is who meets, if only with others: 0 is met by both, 1 by the second alone.
        PastCatchers z = Due.people(12, 0, 0, 3, 1, 0, 0, 0, 5, 0, 0, 0, 0, 2, 0, 9, 0, 0, 4, 0, 0);
        z.set(3, 1, 5);
        due.is("both are busy by the first", z.shout(), 1);
    }

    private static void caughtCatchLater() throws Exception {
        due.says("Who is CAUGHT catches from then on, behind that SHOUT.");
        PastCatchers x = Due.people(4, 0, 0, 1, 1, 9, 0, 0, 0, 0, 8, 0, 0, 2, 0, 0);
        Due.yard(x, "hold 11 p=2;reach 1 p<2;reach 1 p=2");
        due.is("0 is caught, and does not catch 1 in this shout", x.shout(), 1);
        due.is("who catches", x.told(2), 5);
        due.is("0 catches 1 in the next", x.shout(), 2);
        due.is("all catch", x.told(2), 7);
        due.is("nobody runs", x.shout(), 0);
    }

    private static void asAheadOfTheShout() throws Exception {
        due.says("(All WAYS, REACH, HOLD, SLIP as things are ahead of the SHOUT.)");
        // 1, the strongest, is caught on 5 by 3. 0 hides there still, not on lane 2 of the next strongest, where 4 is.
        PastCatchers x = Due.people(24, 2, 0, 0, 0, 0, 0, 0, 5, 9, 2, 0, 0, 2, 5, 1, 0, 0, 5, 0, 9, 0, 0, 2, 0, 9);
        Due.yard(x, "reach 0 p<9;hold 9 p=3;dodge 50 p=2");
        due.is("1 alone", x.shout(), 2);
        due.is("now it hides behind 2", x.of(0, 6), 2);
        due.is("and is caught", x.shout(), 1);
        // One who is caught early would make lanes 2 to 4 unsafe for the one who seeks.
        PastCatchers y = Due.people(4, 5, 0, 3, 0, 0, 0, 0, 0, 9, 0, 0, 0, 0, 0, 9);
        Due.yard(y, "hold 5 p=2;reach 0 p=2;reach 3 p=1");
        due.is("1 alone is caught", y.shout(), 2);
        due.is("seeks now what one of two reaches not", y.of(0, 6), 4);
    }

    private static void counts() throws Exception {
        due.says("SHOUT is 1 more.");
        PastCatchers x = new PastCatchers();
        for (int shout = 0; shout < 5; shout++) {
            due.is("shouts", x.told(0), shout);
            due.is("nobody is caught", x.shout(), 0);
        }
        due.says("What 0 SHOUT, 1 who runs, 2 who catches (bits). NONE.");
        due.is("what -1", x.told(-1), -1);
        due.is("what 3", x.told(3), -1);
        due.is("what greatest", x.told(Integer.MAX_VALUE), -1);
        due.is("nobody runs", x.told(1), 0);
        due.is("nobody catches", x.told(2), 0);
    }

    private static void ofAndSet() throws Exception {
        due.says("Of one what 0 KIND, 1 v, 2 LANE, 3 PACE, 4 STRENGTH, 5 whether it catches, 6 WAY (-5: it catches), 7 REACH, 8 HOLD (-5 both: it runs), 9 SLIP (-5: it catches). NONE.");
        PastCatchers x = Due.people(2, 0, 1, 2, 3, 4, 6, 5, 6, 7, 8);
        int[] runs = {0, 1, 2, 3, 4, 0, 2, -5, -5, 7};
        int[] does = {6, 5, 6, 7, 8, 1, -5, 1, 8, -5};
        for (int what = 0; what < 10; what++) {
            due.is("of one who runs " + what, x.of(0, what), runs[what]);
            due.is("of one who catches " + what, x.of(1, what), does[what]);
            due.is("of nobody " + what, x.of(2, what), -1);
        }
        due.is("what -1", x.of(0, -1), -1);
        due.is("what 10", x.of(0, 10), -1);
        due.is("what 10 of nobody", x.of(-1, 10), -1);
        due.says("Of one what 0 LANE, 1 STRENGTH becomes n: what it was. NONE; BAD.");
        due.is("nobody, bad", x.set(2, 0, 7), -1);
        due.is("nobody below, bad", x.set(-1, 1, 10), -1);
        due.is("what 2, bad", x.set(0, 2, 10), -1);
        due.is("what -1, bad", x.set(0, -1, 10), -1);
        due.is("7 is no lane", x.set(0, 0, 7), -2);
        due.is("7 is a strength", x.set(0, 1, 7), 4);
        due.is("10 is no strength", x.set(0, 1, 10), -2);
        due.is("what it was", x.set(0, 1, 7), 7);
        due.is("its lane", x.set(0, 0, 6), 2);
        due.is("what it was", x.set(0, 0, 6), 6);
        due.says("One catches, or runs: whether it caught. NONE.");
        due.is("nobody", x.catches(2, true), -1);
        due.is("nobody below", x.catches(-1, true), -1);
        due.is("nobody far above", x.catches(33, true), -1);
        due.is("runs already", x.catches(0, false), 0);
        due.is("catches already", x.catches(1, true), 1);
        due.is("as they were", x.told(2), 2);
    }

    private static void beyond() throws Exception {
        due.says("A SHOUT: who is CAUGHT (bits). STATE: SHOUT is 999.");
        PastCatchers x = Due.people(1, 0, 0, 3, 0, 9, 6, 0, 0, 0, 0, 0, 0, 0, 9, 9);
        Due.yard(x, "reach 0 p=0");
        x.row(1, 1, 3);
        x.row(1, 0, 6);
        x.catches(0, false);
        for (int i = 0; i < 998; i++) {
            x.shout();
        }
        due.is("998", x.told(0), 998);
        due.is("one more", x.shout(), 0);
        due.is("999", x.told(0), 999);
        x.catches(0, true);
        due.is("no more", x.shout(), -3);
        due.is("no more again", x.shout(), -3);
        due.is("999 still", x.told(0), 999);
        due.says("goes on from how all is (SHOUTS also beyond 999), and changes nothing.");
        // 999 modulo 4 is 3: lane 0. 1000: lane 6. 1001: lane 3.
        due.is("not at 999 and 1000", x.on(2, 1), 0);
        due.is("at 1001", x.on(3, 1), 1);
        due.is("who is the last", x.last(0), 2);
        due.is("by then", x.last(1), 3);
        due.is("mean", x.mean(3, 0), 5);
        x.book(0);
        x.book(0);
        x.book(2);
        due.is("looked", x.looked(), -5);
    }

    private static void on() throws Exception {
        due.says("ON n SHOUTS (0 .. 30) from now: who runs then, as bits; how many were CAUGHT by these.");
        PastCatchers x = Due.people(1, 0, 0, 0, 0, 9, 0, 0, 1, 0, 8, 0, 0, 2, 0, 7);
        int[] runs = {6, 4, 0, 0};
        for (int n = 0; n < 4; n++) {
            due.is("on " + n, x.on(n, 0), runs[n]);
            due.is("caught by " + n, x.on(n, 1), Math.min(n, 2));
        }
        due.is("on 30", x.on(30, 0), 0);
        due.is("caught by 30", x.on(30, 1), 2);
        due.says("ON: what 0 who runs, 1 how many were CAUGHT. NONE: what; BAD: n.");
        due.is("on -1", x.on(-1, 0), -2);
        due.is("on 31", x.on(31, 1), -2);
        due.is("on least", x.on(Integer.MIN_VALUE, 0), -2);
        due.is("on greatest", x.on(Integer.MAX_VALUE, 0), -2);
        due.is("what 2", x.on(0, 2), -1);
        due.is("what -1", x.on(0, -1), -1);
        due.is("what 2 ahead of 31", x.on(31, 2), -1);
        due.is("nobody", new PastCatchers().on(30, 0), 0);
        // The 30th counts: it is the first that is told to lane 3 when nobody dodges.
        PastCatchers y = Due.people(1, 0, 0, 3, 0, 9, 6, 0, 0, 1, 0, 6, 0, 0, 0, 0, 0, 0, 6, 0, 0);
        Due.yard(y, "reach 0 p<9;dodge 30 y<9");
        y.row(1, 1, 3);
        y.row(2, 1, 3);
        due.is("29", y.on(29, 1), 1);
        due.is("30", y.on(30, 1), 2);
        due.is("who runs behind 30", y.on(30, 0), 8);
    }

    private static void last() throws Exception {
        due.says("LAST: the fewest SHOUTS (0 .. 30) behind which one alone runs, or nobody: who (-5: nobody, or not by"
            + " then); how many (-5: not by then).");
        PastCatchers x = new PastCatchers();
        due.is("nobody: who", x.last(0), -5);
        due.is("nobody: by 0", x.last(1), 0);
        x.person(0, 0, 0, 0, 0);
        due.is("one: who", x.last(0), 0);
        due.is("one: by 0", x.last(1), 0);
        x.catches(0, true);
        due.is("one who catches: who", x.last(0), -5);
        due.is("one who catches: by 0", x.last(1), 0);
        x.person(0, 0, 6, 0, 0);
        x.person(0, 0, 6, 0, 0);
        due.is("two for ever: who", x.last(0), -5);
        due.is("two for ever: by", x.last(1), -5);
        PastCatchers z = Due.people(9, 0, 0, 0, 0, 9, 0, 0, 1, 0, 0, 0, 0, 5, 0, 0, 0, 0, 6, 0, 9);
        due.is("from two to nobody: who", z.last(0), -5);
        due.is("from two to nobody: by", z.last(1), 1);
        // One is caught behind the shout of number 9, the other behind that of number 29: 30 shouts.
        PastCatchers y = Due.people(1, 0, 0, 3, 0, 9, 6, 0, 0, 1, 0, 6, 0, 0, 0, 0, 0, 0, 6, 0, 0);
        Due.yard(y, "reach 0 p<9;dodge 30 y<9");
        y.row(1, 1, 3);
        y.row(2, 1, 3);
        due.is("by 30: who", y.last(0), 3);
        due.is("by 30", y.last(1), 30);
        // Here behind those of numbers 10 and 30: 31 shouts.
        Due.yard(y, "reach 0 p<9;dodge 30 y>0");
        y.row(1, 1, 0);
        y.row(2, 1, 0);
        y.row(1, 2, 3);
        y.row(2, 2, 3);
        due.is("one behind 11", y.on(11, 1), 1);
        due.is("one behind 30", y.on(30, 1), 1);
        due.is("not by 30: who", y.last(0), -5);
        due.is("not by 30", y.last(1), -5);
        y.shout();
        due.is("by 30 from 1 on: who", y.last(0), 3);
        due.is("by 30 from 1 on", y.last(1), 30);
        due.says("LAST: what 0 who, 1 how many; -5. NONE.");
        due.is("what -1", y.last(-1), -1);
        due.is("what 2", y.last(2), -1);
    }
}
