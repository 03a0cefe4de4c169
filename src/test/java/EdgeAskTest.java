/** The edges of 'Terms', part 2, but for ON, LAST and the ACTS; promises 13 to 26. */
public final class EdgeAskTest {
    private static final Due due = new Due();
    private static final long NO = PastCatchers.NO;
    private static final int LEAST = Integer.MIN_VALUE, GREATEST = Integer.MAX_VALUE;

    public static void main(String[] args) throws Exception {
        first();
        stand();
        best();
        need();
        hands();
        alone();
        spread();
        behind();
        see();
        moved();
        odds();
        mean();
        book();
        looked();
        due.end("EdgeAskTest");
    }

    private static void first() throws Exception {
        due.says("FIRST: of those who run the one by whom, did that one catch now, too, most are CAUGHT at the next SHOUT"
            + " (of several the first; -5: nobody runs); how many.");
        PastCatchers x = new PastCatchers();
        due.is("nobody is there: who", x.first(0), -5);
        due.is("nobody is there: how many", x.first(1), -5);
        x.person(0, 0, 3, 0, 9);
        due.is("one alone: who", x.first(0), 0);
        due.is("one alone: how many", x.first(1), 0);
        x.catches(0, true);
        due.is("nobody runs: who", x.first(0), -5);
        due.is("nobody runs: how many", x.first(1), -5);
        // By 1 none is caught, by 2 are 1 and 3, by 3 is 1.
        PastCatchers y = Due.people(1, 0, 0, 3, 0, 9, 0, 0, 3, 0, 0, 0, 0, 5, 0, 5, 0, 0, 6, 0, 0);
        due.is("who", y.first(0), 2);
        due.is("how many", y.first(1), 2);
        y.set(2, 1, 0);
        due.is("of several the first", y.first(0), 2);
        due.is("one", y.first(1), 1);
        // The one who catches too runs no longer: nobody hides behind it.
        PastCatchers z = Due.people(4, 0, 0, 6, 9, 9, 2, 0, 0, 0, 0, 0, 0, 2, 0, 9, 0, 0, 2, 5, 5);
        due.is("by 0: 1 hides behind 3, and is caught there", z.first(0), 0);
        due.is("one", z.first(1), 1);
        due.says("FIRST: what 0 who, 1 how many; -5. NONE.");
        due.is("what -1", y.first(-1), -1);
        due.is("what 2", y.first(2), -1);
        due.is("what 2, nobody runs", x.first(2), -1);
        due.is("as it was", y.told(2), 1);
    }

    private static void stand() throws Exception {
        due.says("STAND of one who catches: the LANE by which, being its LANE, most are CAUGHT at the next SHOUT (of"
            + " several the least); how many.");
        PastCatchers x = Due.people(1, 0, 0, 3, 0, 9);
        due.is("nobody to catch: the least", x.stand(0, 0), 0);
        due.is("nobody to catch: none", x.stand(0, 1), 0);
        x.person(0, 0, 6, 0, 0);
        due.is("5 and 6: the least", x.stand(0, 0), 5);
        due.is("one", x.stand(0, 1), 1);
        Due.yard(x, "reach 0 p=0");
        due.is("6", x.stand(0, 0), 6);
        x.set(1, 0, 0);
        due.is("0", x.stand(0, 0), 0);
        Due.yard(x, "hold 9 l=6;dodge 12 p=1;reach 6 p=0");
        due.is("where it holds more", x.stand(0, 0), 6);
        Due.yard(x, "hold 50 l=7;reach 9 p=0;dodge 30 p=1");
        due.is("there is no lane 7", x.stand(0, 0), 0);
        due.is("nor one caught from it", x.stand(0, 1), 0);
        due.says("STAND: what 0 the LANE, 1 how many. NONE; STATE: it runs.");
        due.is("it runs", x.stand(1, 0), -3);
        due.is("it runs: how many", x.stand(1, 1), -3);
        due.is("what 2 of one who runs", x.stand(1, 2), -1);
        due.is("what -1", x.stand(0, -1), -1);
        due.is("what 2", x.stand(0, 2), -1);
        due.is("nobody", x.stand(2, 0), -1);
        due.is("nobody below", x.stand(-1, 0), -1);
        due.is("far below", x.stand(LEAST, 0), -1);
        due.is("its lane", x.of(0, 2), 3);
    }

    private static void best() throws Exception {
        due.says("BEST of one who runs: those LANES, as bits, by which, being its WAY, it is not CAUGHT at the next"
            + " SHOUT.");
        PastCatchers x = Due.people(2, 1, 0, 3, 0, 0, 0, 0, 3, 0, 9);
        due.is("all but 2, 3, 4", x.best(0), 1 + 2 + 32 + 64);
        Due.yard(x, "reach 6 p=1");
        due.is("none", x.best(0), 0);
        Due.yard(x, "reach 0 p=1");
        due.is("all but 3", x.best(0), 127 - 8);
        Due.yard(x, "reach 6 p=1;dodge 9 l=6");
        due.is("6, where it dodges", x.best(0), 64);
        Due.yard(x, "reach 6 p=1;dodge 9 l=0");
        due.is("0, where it dodges", x.best(0), 1);
        x.catches(1, false);
        due.is("nobody catches: all", x.best(0), 127);
        x.catches(1, true);
        due.says("BEST, as bits. NONE; STATE: it catches.");
        due.is("it catches", x.best(1), -3);
        due.is("nobody", x.best(2), -1);
        due.is("nobody below", x.best(-1), -1);
        due.is("far above", x.best(GREATEST), -1);
        due.is("its way", x.of(0, 6), 0);
        // Nobody else's way is another: who hides behind it goes to its lane, not to that way.
        PastCatchers y = Due.people(4, 0, 0, 6, 0, 5, 2, 0, 0, 9, 0, 0, 0, 1, 0, 9);
        Due.yard(y, "hold 9 p=2");
        due.is("0 on 0, 1, 2, with 1 on 6", y.best(0), 127 - 7);
        Due.yard(y, "hold 9 p=2;reach 6 p=2");
        due.is("1 goes first, and is caught for it", y.best(0), 127);
    }

    private static void need() throws Exception {
        due.says("NEED of one who runs: the least STRENGTH (0 .. 9), in place of its own, by which it is not CAUGHT at the"
            + " next SHOUT (-5: by none).");
        PastCatchers x = Due.people(2, 0, 0, 3, 0, 5, 0, 0, 3, 0, 0);
        for (int hold = 0; hold < 13; hold++) {
            PastCatchers y = Due.people(2, 0, 0, 3, 0, 5, 0, 0, 3, 0, 0);
            Due.yard(y, "hold " + hold + " p=1");
            due.is("hold " + hold, y.need(0), hold <= 9 ? hold : -5);
            due.is("its strength", y.of(0, 4), 5);
        }
        Due.yard(x, "hold 30 p=1;dodge 40 s=9");
        due.is("9 alone", x.need(0), 9);
        Due.yard(x, "hold 30 p=1;dodge 40 s=4|s=7");
        due.is("4, and again 7", x.need(0), 4);
        Due.yard(x, "hold 30 p=1;dodge 40 s>9");
        due.is("not 10", x.need(0), -5);
        x.set(0, 0, 6);
        due.is("not reached: 0", x.need(0), 0);
        x.set(0, 0, 3);
        x.catches(1, false);
        due.is("nobody catches: 0", x.need(0), 0);
        due.is("nobody catches a fast one: 0, not less", Due.people(0, 0, 0, 3, 9, 5).need(0), 0);
        due.is("9 is no more than 9 of pace: 0", Due.people(2, 0, 0, 3, 9, 5, 0, 0, 3, 0, 9).need(0), 0);
        due.is("9 is more than 8 of pace: 1", Due.people(2, 0, 0, 3, 8, 5, 0, 0, 3, 0, 9).need(0), 1);
        x.catches(1, true);
        due.says("NEED; -5. NONE; STATE: it catches.");
        due.is("it catches", x.need(1), -3);
        due.is("nobody", x.need(2), -1);
        due.is("nobody below", x.need(-1), -1);
        due.is("far below", x.need(LEAST), -1);
    }

    private static void hands() throws Exception {
        due.says("HANDS: if all who catch REACHED all LANES at the next SHOUT: the first who is CAUGHT (-5: nobody).");
        PastCatchers x = new PastCatchers();
        due.is("nobody is there", x.hands(), -5);
        x.person(0, 0, 0, 0, 0);
        due.is("nobody catches", x.hands(), -5);
        x.person(0, 0, 6, 0, 9);
        x.catches(1, true);
        due.says("HANDS; -5.");
        due.is("from 6 to 0", x.hands(), 0);
        Due.yard(x, "reach 0 p=1");
        due.is("whatever the reach", x.hands(), 0);
        due.is("but now none", x.on(1, 1), 0);
        x.catches(0, true);
        due.is("nobody runs", x.hands(), -5);
        // All hold together: 3 and 4 are more than 6, no more than 7.
        PastCatchers y = Due.people(12, 0, 0, 3, 9, 0, 0, 0, 3, 1, 5, 0, 0, 0, 0, 3, 0, 0, 6, 0, 4);
        due.is("7 is more than 6", y.hands(), 1);
        y.set(1, 1, 6);
        due.is("7 is no more than 7, and 9", y.hands(), -5);
        y.set(1, 1, 5);
        y.person(0, 0, 3, 0, 0);
        due.is("the first who is caught, not the least slip", y.hands(), 1);
        y.person(0, 0, 3, 2, 0);
        due.is("the first as they run, not by number", y.hands(), 5);
    }

    private static void alone() throws Exception {
        due.says("ALONE of one who catches: how many are CAUGHT at the next SHOUT, if none but that one catches (the"
            + " others who catch are not there).");
        PastCatchers x = Due.people(6, 0, 0, 3, 0, 5, 0, 0, 3, 0, 5, 0, 0, 3, 0, 9);
        due.is("5 is no more than 5", x.alone(1), 0);
        due.is("9 is", x.alone(2), 1);
        x.set(0, 1, 4);
        due.is("5 is more than 4", x.alone(1), 1);
        // The others do not run: it could catch neither, and nobody hides behind them.
        PastCatchers y = Due.people(6, 2, 0, 0, 0, 0, 0, 0, 3, 9, 9, 0, 0, 4, 0, 9);
        due.is("nobody runs near it", y.alone(1), 0);
        y.set(0, 0, 5);
        due.is("0 keeps to its own lane", y.alone(2), 1);
        due.says("ALONE. NONE; STATE: it runs.");
        due.is("it runs", x.alone(0), -3);
        due.is("nobody", x.alone(3), -1);
        due.is("nobody below", x.alone(-1), -1);
        due.is("far above", x.alone(GREATEST), -1);
        due.is("all are there", x.told(2), 6);
    }

    private static void spread() throws Exception {
        due.says("SPREAD: of all rows of LANES on which those who catch (3 at most, else -9), by numbers, could be, that"
            + " by which most are CAUGHT at the next SHOUT (of several the first as a row): how many; the k-th of the"
            + " row.");
        PastCatchers x = Due.people(0, 0, 0, 6, 0, 9, 0, 0, 6, 0, 0, 0, 0, 6, 0, 9, 0, 0, 0, 0, 0, 0, 0, 6, 0, 9,
            0, 0, 3, 0, 0);
        Due.yard(x, "reach 0 p<9");
        spreads(x, "none catches", 0, -5, -5, -5);
        x.catches(2, true);
        spreads(x, "one", 1, 0, -5, -5);
        x.catches(0, true);
        spreads(x, "two", 2, 0, 3, -5);
        x.catches(4, true);
        spreads(x, "three", 3, 0, 3, 6);
        x.catches(5, true);
        for (int k = -1; k < 3; k++) {
            due.is("four: " + k, x.spread(k), -9);
        }
        x.catches(5, false);
        Due.yard(x, "reach 0 p<9;hold 9 l=3&p=0|l=0&p=4;dodge 9 p>0");
        spreads(x, "by what they hold, two", 2, 3, 0, 0);
        due.is("they are where they were", x.of(0, 2) + x.of(2, 2) + x.of(4, 2), 18);
        due.says("SPREAD: k -1 how many, else the k-th (-5: there are fewer). NONE: k (-1 .. 2); -9.");
        due.is("k -2", x.spread(-2), -1);
        due.is("k 3", x.spread(3), -1);
        due.is("k least", x.spread(LEAST), -1);
        due.is("k greatest", x.spread(GREATEST), -1);
        x.catches(5, true);
        due.is("k 3 ahead of four", x.spread(3), -1);
        due.is("k -2 ahead of four", x.spread(-2), -1);
        PastCatchers y = Due.people(7, 0, 0, 3, 0, 0, 0, 0, 3, 0, 0, 0, 0, 3, 0, 0);
        spreads(y, "nobody to catch", 0, 0, 0, 0);
        PastCatchers last = Due.people(112, 0, 0, 6, 0, 0, 0, 0, 4, 0, 0, 0, 0, 1, 0, 0, 0, 0, 3, 9, 9, 0, 0, 3, 0, 9,
            0, 0, 3, 0, 9, 0, 0, 3, 0, 9);
        Due.yard(last, "reach 0 p<9;hold 1 p=4&l=6|p=5&l=1|p=6&l=4;dodge 9 p<3");
        spreads(last, "the last three", 3, 6, 1, 4);
        PastCatchers z = Due.people(7, 0, 0, 3, 0, 1, 0, 0, 3, 0, 1, 0, 0, 3, 0, 1, 0, 0, 6, 2, 0);
        Due.yard(z, "reach 0 p<9");
        spreads(z, "all three are needed", 1, 6, 6, 6);
    }

    private static void spreads(PastCatchers x, String who, int many, int... row) {
        due.is(who + ": how many", x.spread(-1), many);
        for (int k = 0; k < 3; k++) {
            due.is(who + ": " + k, x.spread(k), row[k]);
        }
    }

    private static void behind() throws Exception {
        due.says("BEHIND of two who run: whether the first comes across at the next SHOUT, if it goes just behind the"
            + " second, in the WAY of that one.");
        // 0 goes first, and is caught; just behind 1, who is caught on the same lane, it comes across.
        PastCatchers x = Due.people(8, 0, 0, 3, 9, 0, 0, 0, 3, 0, 0, 0, 0, 6, 5, 0, 0, 0, 3, 0, 9);
        Due.yard(x, "hold 9 p=3");
        due.is("0 is caught now", x.on(1, 0), 6);
        due.is("0 behind 1, who is caught for it", x.behind(0, 1), 1);
        due.is("0 behind 2, in its way", x.behind(0, 2), 1);
        due.is("2 behind 1, whom 0 goes ahead of", x.behind(2, 1), 1);
        due.is("1 behind 0", x.behind(1, 0), 1);
        due.is("1 behind 2, in its way", x.behind(1, 2), 1);
        x.set(2, 0, 2);
        x.set(2, 1, 9);
        due.is("0 behind 2, who is caught for it", x.behind(0, 2), 1);
        x.set(3, 1, 5);
        due.is("0 behind 2, who is not caught", x.behind(0, 2), 0);
        due.is("just behind: 1 behind 2, ahead of none but 0", x.behind(1, 2), 1);
        // A slow one behind a fast one goes ahead of those between.
        PastCatchers y = Due.people(8, 0, 0, 0, 9, 9, 0, 0, 3, 5, 0, 0, 0, 3, 0, 0, 0, 0, 1, 0, 9);
        Due.yard(y, "hold 5 p=3;reach 6 p=3");
        due.is("1 is caught now", y.on(1, 0), 5);
        due.is("2 just behind 0 is caught", y.behind(2, 0), 0);
        due.is("2 behind 1", y.behind(2, 1), 1);
        due.is("1 behind 2, who is caught for it", y.behind(1, 2), 1);
        // Its own kind's way and place no longer count: a waiting one behind a runner goes with it.
        PastCatchers z = Due.people(4, 3, 0, 3, 0, 0, 0, 0, 0, 9, 9, 0, 0, 3, 0, 9);
        due.is("it is caught now", z.on(1, 0), 2);
        due.is("in the way of 1", z.behind(0, 1), 1);
        due.is("1 in the way of 0, and behind it", z.behind(1, 0), 1);
        Due.yard(z, "hold 20 p=2;reach 9 p=2;dodge 30 p=1;dodge 40 p=0&l=0");
        due.is("it dodges in the way of 1", z.behind(0, 1), 1);
        Due.yard(z, "hold 20 p=2;reach 9 p=2;dodge 30 p=1;dodge 40 p=0&l=3");
        due.is("it dodges in its own way alone", z.behind(0, 1), 0);
        // Of seven none catches; of six who run, the last may be caught behind any.
        PastCatchers seven = Due.people(0, 0, 0, 3, 0, 0, 0, 0, 3, 1, 0, 0, 0, 3, 2, 0, 3, 0, 3, 3, 0, 0, 0, 3, 4, 0,
            6, 0, 3, 5, 0, 0, 0, 3, 6, 0);
        for (int p = 0; p < 7; p++) {
            for (int q = 0; q < 7; q++) {
                due.is(p + " of seven behind " + q, seven.behind(p, q), p == q ? -2 : 1);
            }
        }
        seven.catches(6, true);
        Due.yard(seven, "hold 50 p=6;reach 9 p=6;dodge 99 p<3");
        for (int part = 0; part < 4; part++) {
            seven.row(5, part, 3);
        }
        // They go 4 2 1 0 5 3, and one of 4, 5, 3 is caught, whichever is first; the others dodge.
        for (int q = 0; q < 6; q++) {
            due.is("4 behind " + q, seven.behind(4, q), q == 4 ? -2 : q == 3 || q == 5 ? 1 : 0);
            due.is("3 behind " + q, seven.behind(3, q), q == 3 ? -2 : 1);
            due.is("5 behind " + q, seven.behind(5, q), q == 5 ? -2 : 1);
        }
        due.says("BEHIND: 1, 0. NONE; BAD: one of the PEOPLE; STATE: one of the two catches.");
        due.is("nobody behind", z.behind(3, 0), -1);
        due.is("behind nobody", z.behind(0, 3), -1);
        due.is("nobody behind nobody", z.behind(3, 3), -1);
        due.is("nobody below", z.behind(-1, -1), -1);
        due.is("behind itself", z.behind(0, 0), -2);
        due.is("one who catches behind itself", z.behind(2, 2), -2);
        due.is("one who catches behind one", z.behind(2, 0), -3);
        due.is("one behind one who catches", z.behind(0, 2), -3);
        z.catches(1, true);
        due.is("two who catch", z.behind(1, 2), -3);
        due.is("none ahead of who catches", z.behind(2, 3), -1);
    }

    private static void see() throws Exception {
        due.says("SEEN becomes bits: what it was (0 at first). BAD: bits of nobody.");
        PastCatchers x = new PastCatchers();
        due.is("none of nobody", x.see(0), 0);
        due.is("0 of nobody", x.see(1), -2);
        for (int p = 0; p < 7; p++) {
            x.person(0, 0, 0, 0, 0);
            due.is("all", x.see((1 << p + 1) - 1), p == 0 ? 0 : (1 << p) - 1);
            due.is("one too many", x.see(1 << p + 1), -2);
            due.is("all and one too many", x.see((1 << p + 2) - 1), -2);
        }
        due.is("below", x.see(-1), -2);
        due.is("least", x.see(LEAST), -2);
        due.is("greatest", x.see(GREATEST), -2);
        due.is("what it was", x.see(127), 127);
        x.catches(3, true);
        due.is("one who catches", x.see(8), 127);
        due.is("none", x.see(0), 8);
        due.says("SEEN is told by hand, as bits.");
        for (int bits = 0; bits < 128; bits++) {
            due.is("bits " + bits, x.see(bits), Math.max(bits - 1, 0));
        }
        x.set(3, 1, 9);
        due.is("one is caught, whoever is seen", x.shout(), 1);
        due.is("as it was told by hand, not as it went", x.see(0), 127);
    }

    private static void moved() throws Exception {
        due.says("MOVED of one who catches: those LANES, as bits, by which, being its LANE, just who is SEEN is CAUGHT at"
            + " the next SHOUT.");
        PastCatchers x = Due.people(1, 0, 0, 3, 0, 9, 0, 0, 0, 1, 0, 0, 0, 6, 0, 0);
        due.is("none is caught", x.moved(0), 4 + 8 + 16);
        x.see(2);
        due.is("1 is", x.moved(0), 1 + 2);
        x.see(4);
        due.is("2 is", x.moved(0), 32 + 64);
        x.see(6);
        due.is("never both", x.moved(0), 0);
        x.see(3);
        due.is("never one who catches", x.moved(0), 0);
        x.see(0);
        Due.yard(x, "hold 0 p=0;dodge 9 p>0");
        due.is("from nowhere anyone", x.moved(0), 127);
        Due.yard(x, "reach 6 p=0");
        due.is("from everywhere 1", x.moved(0), 0);
        x.see(2);
        due.is("just 1", x.moved(0), 127);
        due.is("its lane", x.of(0, 2), 3);
        due.says("MOVED, as bits. NONE; STATE: it runs.");
        due.is("it runs", x.moved(1), -3);
        due.is("nobody", x.moved(3), -1);
        due.is("nobody below", x.moved(-1), -1);
        due.is("far below", x.moved(LEAST), -1);
    }

    private static void odds() throws Exception {
        due.says("ODDS of one who runs by one who catches: if LANE of the second is any, each alike likely: how likely the"
            + " first is CAUGHT at the next SHOUT: a fraction in lowest terms.");
        for (int reach = 0; reach < 8; reach++) {
            for (int lane = 0; lane < 7; lane++) {
                PastCatchers x = Due.people(2, 0, 0, lane, 0, 0, 0, 0, 3, 0, 1);
                Due.yard(x, "reach " + reach + " p=1");
                int from = Math.min(6, lane + reach) - Math.max(0, lane - reach) + 1;
                due.is("above, " + reach + " to " + lane, x.odds(0, 1, 0), from == 7 ? 1 : from);
                due.is("below, " + reach + " to " + lane, x.odds(0, 1, 1), from == 7 ? 1 : 7);
            }
        }
        PastCatchers x = Due.people(6, 0, 0, 3, 0, 2, 0, 0, 6, 0, 2, 0, 0, 0, 0, 2);
        due.is("never: above", x.odds(0, 1, 0), 0);
        due.is("never: below", x.odds(0, 1, 1), 1);
        x.set(2, 0, 4);
        due.is("with the other's help: above", x.odds(0, 1, 0), 3);
        due.is("with the other's help: below", x.odds(0, 1, 1), 7);
        due.is("its lane", x.of(1, 2), 6);
        due.says("ODDS of one who runs, another one catching; part 0 above, 1 below the line. NO: also if the first"
            + " catches, or the second runs.");
        due.is("part -1", x.odds(0, 1, -1), NO);
        due.is("part 2", x.odds(0, 1, 2), NO);
        due.is("nobody first", x.odds(3, 1, 0), NO);
        due.is("nobody first, below", x.odds(-1, 1, 0), NO);
        due.is("nobody second", x.odds(0, 3, 0), NO);
        due.is("nobody second, below", x.odds(0, -1, 1), NO);
        due.is("the first catches", x.odds(1, 2, 0), NO);
        due.is("one who catches by itself", x.odds(1, 1, 0), NO);
        due.is("one who runs by itself", x.odds(0, 0, 0), NO);
        x.person(0, 0, 0, 0, 0);
        due.is("the second runs", x.odds(0, 3, 0), NO);
        due.is("the first catches, the second runs", x.odds(1, 3, 1), NO);
    }

    private static void mean() throws Exception {
        due.says("MEAN of n SHOUTS (1 .. 30): how many run behind SHOUTS 1 .. n, together, by n: a fraction in lowest"
            + " terms.");
        PastCatchers x = new PastCatchers();
        due.is("nobody: above", x.mean(30, 0), 0);
        due.is("nobody: below", x.mean(30, 1), 1);
        x = Due.people(1, 0, 0, 0, 0, 9, 0, 0, 1, 0, 8, 0, 0, 2, 0, 7, 0, 0, 6, 0, 9, 0, 0, 6, 0, 9);
        // Behind them run 3, 2, 2, 2 ..
        long[][] want = {{3, 1}, {5, 2}, {7, 3}, {9, 4}, {11, 5}, {13, 6}};
        for (int n = 1; n <= 6; n++) {
            due.is(n + " above", x.mean(n, 0), want[n - 1][0]);
            due.is(n + " below", x.mean(n, 1), want[n - 1][1]);
        }
        due.is("30 above", x.mean(30, 0), 61);
        due.is("30 below", x.mean(30, 1), 30);
        x.shout();
        due.is("from now: 60 by 30: above", x.mean(30, 0), 2);
        due.is("from now: 60 by 30: below", x.mean(30, 1), 1);
        x.catches(3, true);
        x.catches(4, true);
        x.set(3, 0, 4);
        x.set(3, 1, 0);
        x.set(4, 0, 4);
        x.set(4, 1, 0);
        due.is("0 by 9: above", x.mean(9, 0), 0);
        due.is("0 by 9: below", x.mean(9, 1), 1);
        due.says("MEAN; part likewise. NO: n, part.");
        due.is("n 0", x.mean(0, 0), NO);
        due.is("n 31", x.mean(31, 1), NO);
        due.is("n -1", x.mean(-1, 0), NO);
        due.is("n least", x.mean(LEAST, 0), NO);
        due.is("n greatest", x.mean(GREATEST, 0), NO);
        due.is("part -1", x.mean(1, -1), NO);
        due.is("part 2", x.mean(1, 2), NO);
    }

    private static void book() throws Exception {
        due.says("A row comes to the BOOK: how many there are (-1: it is empty then, 0). BAD: bits of nobody; FULL: 12.");
        PastCatchers x = new PastCatchers();
        due.is("none of nobody", x.book(0), 1);
        due.is("0 of nobody", x.book(1), -2);
        due.is("empty", x.book(-1), 0);
        for (int p = 0; p < 7; p++) {
            x.person(0, 0, 0, 0, 0);
            due.is("one too many", x.book(1 << p + 1), -2);
        }
        due.is("below -1", x.book(-2), -2);
        due.is("least", x.book(LEAST), -2);
        due.is("greatest", x.book(GREATEST), -2);
        for (int row = 1; row <= 12; row++) {
            due.is("row " + row, x.book(127), row);
        }
        due.is("a thirteenth", x.book(0), -4);
        due.is("a bad thirteenth", x.book(128), -2);
        due.is("twelve", x.count(2), 12);
        due.is("empty again", x.book(-1), 0);
        due.is("none", x.count(2), 0);
        due.is("empty twice", x.book(-1), 0);
        due.is("the first", x.book(1), 1);
    }

    private static void looked() throws Exception {
        due.says("A BOOK told by hand: who is CAUGHT at SHOUTS 1, 2, 3 .. (bits; 12 at most): LOOKED at: the first that is"
            + " otherwise (-5: none).");
        PastCatchers x = Due.people(1, 0, 0, 0, 0, 9, 0, 0, 1, 0, 8, 0, 0, 2, 0, 7);
        due.is("an empty one", x.looked(), -5);
        int[] caught = {2, 4, 0, 0, 0, 0, 0, 0, 0, 0, 0, 0};
        for (int i = 0; i < 12; i++) {
            x.book(caught[i]);
            due.is("as it is, " + (i + 1), x.looked(), -5);
        }
        for (int wrong = 0; wrong < 12; wrong++) {
            x.book(-1);
            for (int i = 0; i < 12; i++) {
                x.book(i == wrong ? caught[i] ^ 1 : caught[i]);
            }
            due.is("otherwise at " + (wrong + 1), x.looked(), wrong + 1);
        }
        x.book(-1);
        x.book(6);
        x.book(6);
        due.is("the first of two", x.looked(), 1);
        x.book(-1);
        due.says("LOOKED at; -5.");
        due.is("an empty one again", x.looked(), -5);
        x.book(4);
        due.is("not yet", x.looked(), 1);
        x.shout();
        due.is("from now", x.looked(), -5);
    }
}
