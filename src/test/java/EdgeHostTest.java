/** The edges of the ACTS, THE IMAGE and 'Terms', part 3; promises 27 to 37. */
public final class EdgeHostTest {
    private static final Due due = new Due();
    private static final long NO = PastCatchers.NO;
    private static final int LEAST = Integer.MIN_VALUE, GREATEST = Integer.MAX_VALUE;

    public static void main(String[] args) throws Exception {
        judged();
        image();
        imageLeaves();
        acts();
        wraps();
        traces();
        taken();
        count();
        tape();
        item();
        read();
        shift();
        shiftsWithin();
        due.end("EdgeHostTest");
    }

    /** A tape of booleans, by a text of 1 and 0. */
    private static void row(PastCatchers x, int tape, String signs) {
        x.tape(tape, 4, signs.length());
        for (int i = 0; i < signs.length(); i++) {
            x.item(tape, i, signs.charAt(i) == '1' ? 1 : 0);
        }
    }

    private static void judged() throws Exception {
        due.says("Who runs, told by a row of booleans, from a place on, by numbers, is JUDGED: the first that is"
            + " otherwise; -5: none, or there is none to look at; 100 and how many were looked at, if the row ends ahead"
            + " of that (or the place is below 0, or the TAPE holds nothing).");
        PastCatchers x = new PastCatchers();
        x.tape(0, 4, 0);
        due.is("nobody, an empty row", x.judge(0, 0), -5);
        due.is("nobody, place below", x.judge(0, -1), -5);
        due.is("nobody, beyond", x.judge(0, 9), -5);
        due.is("nobody, nothing there", x.judge(1, 0), -5);
        x = Due.people(2, 0, 0, 0, 0, 0, 0, 0, 0, 0, 0, 0, 0, 0, 0, 0);
        row(x, 0, "101");
        due.is("as it is, and no longer", x.judge(0, 0), -5);
        row(x, 0, "001");
        due.is("the first is otherwise", x.judge(0, 0), 0);
        row(x, 0, "111");
        due.is("the second is otherwise", x.judge(0, 0), 1);
        row(x, 0, "100");
        due.is("the last is otherwise", x.judge(0, 0), 2);
        row(x, 0, "010");
        due.is("of several the first", x.judge(0, 0), 0);
        row(x, 0, "10");
        due.is("ends behind two", x.judge(0, 0), 102);
        row(x, 0, "11");
        due.is("otherwise ahead of the end", x.judge(0, 0), 1);
        row(x, 0, "1");
        due.is("ends behind one", x.judge(0, 0), 101);
        row(x, 0, "0");
        due.is("otherwise at the end", x.judge(0, 0), 0);
        row(x, 0, "");
        due.is("an empty row", x.judge(0, 0), 100);
        due.is("nothing there", x.judge(1, 0), 100);
        due.is("nothing there, place below", x.judge(1, -1), 100);
        row(x, 0, "0101");
        due.is("from 1: as it is", x.judge(0, 1), -5);
        due.is("from 0", x.judge(0, 0), 0);
        due.is("from 2", x.judge(0, 2), 0);
        due.is("from 3, one alone", x.judge(0, 3), 101);
        due.is("from 4, the end", x.judge(0, 4), 100);
        due.is("from 5", x.judge(0, 5), 100);
        due.is("from the greatest", x.judge(0, GREATEST), 100);
        due.is("from -1", x.judge(0, -1), 100);
        due.is("from the least", x.judge(0, LEAST), 100);
        row(x, 5, "0".repeat(57) + "101");
        due.is("the last three of 60", x.judge(5, 57), -5);
        due.is("the last two of 60", x.judge(5, 58), 0);
        due.is("the last of 60", x.judge(5, 59), 101);
        due.says("JUDGED from place i of a TAPE on. NONE: tape; CAST: it is no row of booleans.");
        due.is("tape -1", x.judge(-1, 0), -1);
        due.is("tape 6", x.judge(6, 0), -1);
        for (int sort = 0; sort < 4; sort++) {
            x.tape(2, sort, 3);
            due.is("sort " + sort, x.judge(2, 0), -12);
            due.is("sort " + sort + " from -1", x.judge(2, -1), -12);
            due.is("an unlike row of sort " + sort + ", emptied", x.tape(2, sort, 0), 1);
            due.is("an empty row of sort " + sort, x.judge(2, 0), -12);
        }
        x.tape(2, -1, 0);
        due.is("nothing there again", x.judge(2, 0), 100);
    }

    private static void image() throws Exception {
        due.says("All is as THE IMAGE: how many PEOPLE. STATE: there is none.");
        PastCatchers x = new PastCatchers();
        due.is("none", x.undo(), -3);
        x.person(0, 0, 0, 0, 0);
        due.is("none still", x.undo(), -3);
        due.is("one still", x.count(0), 1);
        due.says("THE IMAGE is taken: how many PEOPLE there are.");
        due.is("of nobody", new PastCatchers().image(), 0);
        due.is("of one", x.image(), 1);
        for (int p = 1; p < 7; p++) {
            x.person(p, p, p, p, p);
        }
        due.is("an eighth", x.person(0, 0, 0, 0, 0), -4);
        due.is("back to one", x.undo(), 1);
        due.is("one runs", x.told(1), 1);
        due.is("none behind it", x.of(1, 0), -1);
        due.is("bits of nobody", x.see(2), -2);
        due.is("as they come", x.person(6, 9, 5, 4, 3), 1);
        due.is("of two", x.image(), 2);
        due.is("to two", x.undo(), 2);

        due.says("THE IMAGE: PEOPLE with all that is theirs, SHOUT, SEEN, the BOOK, which YARD holds.");
        PastCatchers y = Due.people(1, 0, 1, 2, 3, 4, 6, 5, 4, 3, 2);
        y.row(1, 0, 1);
        y.row(1, 1, 6);
        y.row(1, 2, 3);
        y.row(1, 3, 4);
        due.is("4 is no more than 5", y.shout(), 0);
        Due.yard(y, "reach 3 p=0;hold 20 p=0;dodge 5 p=1");
        y.see(2);
        y.book(0);
        y.book(2);
        due.is("image", y.image(), 2);
        for (int time = 0; time < 3; time++) {
            y.set(0, 0, 6);
            y.set(1, 0, 6);
            y.set(0, 1, 9);
            y.set(1, 1, 9);
            y.catches(0, false);
            y.catches(1, true);
            for (int part = 0; part < 4; part++) {
                y.row(1, part, 5);
            }
            y.shout();
            y.see(1);
            y.book(-1);
            y.book(3);
            Due.yard(y, "hold 9 p=9");
            y.person(3, 3, 3, 3, 3);
            y.catches(2, true);
            due.is("undo", y.undo(), 2);
            int[] first = {0, 1, 2, 3, 4, 1, -5, 3, 24, -5};
            int[] second = {6, 5, 4, 3, 2, 0, 6, -5, -5, 10};
            for (int what = 0; what < 10; what++) {
                due.is("first " + what, y.of(0, what), first[what]);
                due.is("second " + what, y.of(1, what), second[what]);
                due.is("third " + what, y.of(2, what), -1);
            }
            int[] turns = {1, 6, 3, 4};
            for (int part = 0; part < 4; part++) {
                due.is("row " + part, y.row(1, part, 2), turns[part]);
                y.row(1, part, turns[part]);
            }
            due.is("shout", y.told(0), 1);
            due.is("runs", y.told(1), 2);
            due.is("catches", y.told(2), 1);
            due.is("seen", y.see(2), 2);
            due.is("book", y.count(2), 2);
            due.is("the book's rows: 0, and then 2", y.looked(), -5);
        }
        PastCatchers seven = new PastCatchers();
        for (int p = 0; p < 7; p++) {
            seven.person(6, p, p, p, p);
            seven.row(p, 3, 6 - p);
        }
        seven.catches(6, true);
        due.is("of seven", seven.image(), 7);
        for (int p = 0; p < 7; p++) {
            seven.row(p, 3, 0);
            seven.set(p, 0, 3);
            seven.set(p, 1, 3);
            seven.catches(p, p < 6);
        }
        due.is("back to seven", seven.undo(), 7);
        for (int p = 0; p < 7; p++) {
            due.is("row of " + p, seven.row(p, 3, 0), 6 - p);
            due.is("lane of " + p, seven.of(p, 2), p);
            due.is("strength of " + p, seven.of(p, 4), p);
            due.is("catches " + p, seven.of(p, 5), p == 6 ? 1 : 0);
        }
        y.set(0, 0, 0);
        due.is("a newer image", y.image(), 2);
        y.set(0, 0, 1);
        y.undo();
        due.is("of it", y.of(0, 2), 0);
    }

    private static void imageLeaves() throws Exception {
        due.says("which YARD holds.");
        PastCatchers x = Due.people(1, 0, 0, 0, 0, 0);
        x.image();
        for (int i = 0; i < 6; i++) {
            due.is("yard " + i, Due.yard(x, "reach " + (i + 2) + " p=0"), i);
            x.undo();
            due.is("none holds", x.of(0, 7), 1);
        }
        due.is("six are there", x.count(1), 6);
        due.is("a seventh", Due.yard(x, "reach 9 p=0"), -4);
        due.is("the text is none of the image's", x.count(3), 11);
        x.undo();
        due.is("nor then", x.count(3), 11);
        row(x, 0, "101");
        x.act(0, 2, 1);
        x.undo();
        due.is("nor tapes", x.read(0, 2), 1);
        due.is("nor the trace", x.count(4), 3);
        PastCatchers y = Due.people(1, 0, 0, 0, 0, 0);
        Due.yard(y, "reach 2 p=0");
        Due.yard(y, "reach 3 p=0");
        y.image();
        Due.yard(y, "reach 4 p=0");
        y.undo();
        due.is("the second holds", y.of(0, 7), 3);
        due.is("a fault", Due.yard(y, "reach 9 p=0;"), -22);
        due.is("it holds still", y.of(0, 7), 3);
        due.is("the fourth", Due.yard(y, "reach 5 p=0"), 3);
        due.is("holds", y.of(0, 7), 5);
    }

    /** One of each KIND, by numbers, with v 9 less the number. */
    private static PastCatchers kinds() {
        PastCatchers x = new PastCatchers();
        for (int kind = 0; kind < 7; kind++) {
            x.person(kind, 9 - kind, 0, 0, 0);
        }
        return x;
    }

    private static void acts() throws Exception {
        due.says("An ACT (0 runs, 1 holds, 2 tells) of one with x. 0, and no TRACE then: no such one, act.");
        PastCatchers x = kinds();
        int[][] wrong = {{-1, 0}, {7, 0}, {LEAST, 1}, {GREATEST, 2}, {0, -1}, {0, 3}, {6, LEAST}, {6, GREATEST}, {7, 3}};
        for (int[] call : wrong) {
            due.is("a right one", x.act(0, 2, 10), 2);
            due.is("its bodies", x.count(4), 3);
            String name = "act(" + call[0] + ", " + call[1] + ", 10)";
            due.is(name, x.act(call[0], call[1], 10), 0);
            due.is(name + ": bodies", x.count(4), 0);
            due.is(name + ": trace", x.trace(0), -1);
        }
        due.says("BODIES: RUNNER: 10 runs: x + i. 11 holds: runs(x) - v. 12 tells: holds(x) * 2. EDGED: 20 holds:"
            + " super.holds(x) ^ 6. SHIELDED: 30 runs: super.runs(x * 3). WAITING: 40 tells: super.tells(x) + holds(1)."
            + " DASHING: 50 runs: -super.runs(x). 51 holds: super.holds(x + 1). SEEKING: 60 tells: super.tells(x - i)."
            + " TOLD: 70 holds: super.holds(x) + super.runs(2). 71 runs: super.runs(x) ^ v. runs(..) and so on: the body of the KIND, or, if that has none, of the next KIND above that has one;"
            + " super.runs(..): so from the KIND above the body's on");
        // With 10; i the number, v 9 less i.
        int[] runs = {10, 11, 32, 13, -14, 35, 16 ^ 3};
        int[] holds = {10 - 9, 11 - 8 ^ 6, 32 - 7, 13 - 6, -15 - 5 ^ 6, 35 - 4, (16 ^ 3) - 3 + 8};
        int[] tells = {2, (11 - 8 ^ 6) * 2, 50, 14 - 2, (-15 - 5 ^ 6) * 2, 32,
            ((16 ^ 3) - 3 + 8) * 2 + (7 ^ 3) - 3 + 8};
        for (int p = 0; p < 7; p++) {
            due.is("runs of " + p, x.act(p, 0, 10), runs[p]);
            due.is("holds of " + p, x.act(p, 1, 10), holds[p]);
            due.is("tells of " + p, x.act(p, 2, 10), tells[p]);
        }
    }

    private static void wraps() throws Exception {
        due.says("ACTS of one with x (wrapping): 0 runs, 1 holds, 2 tells; i the number.");
        PastCatchers x = kinds();
        due.is("x + i beyond the greatest", x.act(1, 0, GREATEST), LEAST);
        due.is("runs(x) - v beyond the least", x.act(0, 1, LEAST), GREATEST - 8);
        due.is("holds(x) * 2 beyond the greatest", x.act(0, 2, (1 << 30) + 9), LEAST);
        due.is("holds(x) * 2 beyond the least", x.act(0, 2, LEAST), -18);
        due.is("x * 3 beyond the greatest", x.act(2, 0, 1 << 30), -(1 << 30) + 2);
        due.is("x * 3 of the least", x.act(2, 0, LEAST), LEAST + 2);
        due.is("-runs(x) of the least", x.act(4, 0, LEAST - 4), LEAST);
        due.is("x + 1 beyond the greatest", x.act(4, 1, GREATEST), -(LEAST + 4) - 5 ^ 6);
        due.is("x - i beyond the least", x.act(5, 2, LEAST), ((GREATEST - 4) * 3 + 5 - 4) * 2);
        due.is("runs(x) ^ v beyond the greatest", x.act(6, 0, GREATEST), LEAST + 5 ^ 3);
        due.is("^ 6 below 0", x.act(1, 1, -11), -18 ^ 6);
    }

    private static void trace(int person, int act, int... bodies) {
        PastCatchers x = kinds();
        x.act(person, act, 1);
        String call = "act(" + person + ", " + act + ", 1)";
        due.is(call + ": bodies", x.count(4), bodies.length);
        for (int i = 0; i < bodies.length; i++) {
            due.is(call + ": " + i, x.trace(i), bodies[i]);
        }
        due.is(call + ": no more", x.trace(bodies.length), -1);
        due.is(call + ": none below", x.trace(-1), -1);
        due.is(call + ": none at 20", x.trace(20), -1);
        due.is(call + ": none at the greatest", x.trace(GREATEST), -1);
        due.is(call + ": none at the least", x.trace(LEAST), -1);
    }

    private static void traces() throws Exception {
        due.says("THE TRACE: the numbers of the bodies that ran in the latest act(), as they began; the first 20 are"
            + " kept.");
        due.says("all that stands in a body is done from the left on.");
        trace(0, 0, 10);
        trace(0, 1, 11, 10);
        trace(0, 2, 12, 11, 10);
        trace(1, 0, 10);
        trace(1, 1, 20, 11, 10);
        trace(1, 2, 12, 20, 11, 10);
        trace(2, 0, 30, 10);
        trace(2, 1, 11, 30, 10);
        trace(2, 2, 12, 11, 30, 10);
        trace(3, 0, 10);
        trace(3, 1, 11, 10);
        trace(3, 2, 40, 12, 11, 10, 11, 10);
        trace(4, 0, 50, 10);
        trace(4, 1, 51, 20, 11, 50, 10);
        trace(4, 2, 12, 51, 20, 11, 50, 10);
        trace(5, 0, 30, 10);
        trace(5, 1, 11, 30, 10);
        trace(5, 2, 60, 12, 11, 30, 10);
        trace(6, 0, 71, 10);
        trace(6, 1, 70, 11, 71, 10, 10);
        // The longest of all.
        trace(6, 2, 40, 12, 70, 11, 71, 10, 10, 70, 11, 71, 10, 10);
        PastCatchers x = kinds();
        due.says("THE TRACE's i-th body. NONE.");
        due.is("none at first", x.trace(0), -1);
        x.act(6, 2, 1);
        due.is("the last", x.trace(11), 10);
        due.is("none behind the last", x.trace(12), -1);
        due.is("none below", x.trace(-1), -1);
        x.act(0, 0, 1);
        due.is("the latest alone", x.trace(0), 10);
        due.is("and no more", x.trace(1), -1);
        due.is("one", x.count(4), 1);
    }

    private static void taken() throws Exception {
        due.says("One of the PEOPLE taken for one of KIND k (0 .. 6), or one under that: the KIND it is of (not k). BAD: k;"
            + " NOTHING: no such one; CAST.");
        PastCatchers x = kinds();
        String[] kindsOf = {"0", "01", "02", "03", "014", "025", "036"};
        for (int p = 0; p < 7; p++) {
            for (int k = 0; k < 7; k++) {
                due.is(p + " for " + k, x.taken(p, k), kindsOf[p].indexOf('0' + k) >= 0 ? p : -12);
            }
        }
        due.is("k -1", x.taken(0, -1), -2);
        due.is("k 7", x.taken(0, 7), -2);
        due.is("k least", x.taken(0, LEAST), -2);
        due.is("k greatest", x.taken(0, GREATEST), -2);
        due.is("nobody", x.taken(7, 0), -11);
        due.is("nobody below", x.taken(-1, 6), -11);
        due.is("k ahead of nobody", x.taken(7, 7), -2);
        due.is("k below ahead of nobody", x.taken(-1, -1), -2);
    }

    private static void count() throws Exception {
        due.says("How many: 0 PEOPLE, 1 YARDS, 2 rows of the BOOK, 3 bytes of THE TEXT, 4 bodies that ran in the latest"
            + " act() (all, kept or not). BAD.");
        PastCatchers x = new PastCatchers();
        for (int what = 0; what < 5; what++) {
            due.is("none: " + what, x.count(what), 0);
        }
        x.person(0, 0, 0, 0, 0);
        Due.yard(x, "hold 1 p=0");
        Due.yard(x, "hold 1 p=0");
        Due.yard(x, "hold 1 p=0;");
        for (int i = 0; i < 5; i++) {
            x.book(0);
        }
        Due.feed(x, "hold");
        x.act(0, 2, 0);
        int[] want = {1, 2, 5, 4, 3};
        for (int what = 0; what < 5; what++) {
            due.is("how many: " + what, x.count(what), want[what]);
        }
        due.is("what -1", x.count(-1), -2);
        due.is("what 5", x.count(5), -2);
        due.is("what least", x.count(LEAST), -2);
        due.is("what greatest", x.count(GREATEST), -2);
    }

    private static void tape() throws Exception {
        due.says("TAPES 0 .. 5 hold nothing (at first), or a row of 0 bytes, 1 shorts, 2 ints, 3 longs, 4 booleans (items"
            + " 0, 1).");
        PastCatchers x = new PastCatchers();
        for (int tape = 0; tape < 6; tape++) {
            due.is("nothing on " + tape, x.item(tape, 0, 0), -11);
            due.is("nothing to read on " + tape, x.read(tape, 0), NO);
        }
        due.says("A TAPE becomes a row of n (0 .. 60) of a sort, all 0, or holds nothing (sort -1: n does not matter): 1."
            + " NONE: tape; BAD: sort, n above 60; SIZE.");
        due.is("tape -1", x.tape(-1, 0, 0), -1);
        due.is("tape 6", x.tape(6, 0, 0), -1);
        due.is("tape -1 ahead of a bad sort", x.tape(-1, 5, -1), -1);
        due.is("tape 6 for nothing", x.tape(6, -1, 0), -1);
        due.is("sort -2", x.tape(0, -2, 0), -2);
        due.is("sort 5", x.tape(0, 5, 0), -2);
        due.is("a bad sort ahead of a size below 0", x.tape(0, 5, -1), -2);
        due.is("sort -2, n -1", x.tape(0, -2, -1), -2);
        for (int sort = 0; sort < 5; sort++) {
            due.is("61", x.tape(0, sort, 61), -2);
            due.is("greatest", x.tape(0, sort, GREATEST), -2);
            due.is("-1", x.tape(0, sort, -1), -14);
            due.is("least", x.tape(0, sort, LEAST), -14);
            due.is("0", x.tape(1, sort, 0), 1);
            due.is("no place 0", x.item(1, 0, 1), -13);
            due.is("60", x.tape(5, sort, 60), 1);
            due.is("place 59", x.item(5, 59, 1), 1);
            due.is("no place 60", x.item(5, 60, 1), -13);
            due.is("1", x.read(5, 59), 1);
            due.is("60 again", x.tape(5, sort, 60), 1);
            due.is("all 0", x.read(5, 59), 0);
        }
        due.is("still nothing", x.item(0, 0, 0), -11);
        x.item(5, 7, 1);
        due.is("a refused one", x.tape(5, 0, 61), -2);
        due.is("changes nothing", x.read(5, 7), 1);
        due.is("a refused size", x.tape(5, 0, -1), -14);
        due.is("changes nothing, too", x.read(5, 7), 1);
        due.is("nothing, n -1", x.tape(5, -1, -1), 1);
        due.is("nothing is there", x.item(5, 7, 1), -11);
        due.is("nothing, n 61", x.tape(4, -1, 61), 1);
        due.is("a longer one behind a shorter", x.tape(3, 0, 2), 1);
        x.item(3, 1, 9);
        x.tape(3, 0, 1);
        x.tape(3, 0, 3);
        due.is("is all 0", x.read(3, 1), 0);
    }

    private static void item() throws Exception {
        due.says("Item i of a TAPE becomes v (its lowest bits, as many as an item has; booleans: whether v is not 0): 1."
            + " NONE; NOTHING; PLACE.");
        PastCatchers x = new PastCatchers();
        for (int sort = 0; sort < 5; sort++) {
            x.tape(sort, sort, 2);
        }
        int[] bits = {8, 16, 32, 64};
        for (int sort = 0; sort < 4; sort++) {
            long half = 1L << bits[sort] - 1;
            due.is("item", x.item(sort, 1, half - 1), 1);
            due.is("the greatest", x.read(sort, 1), half - 1);
            x.item(sort, 1, half);
            due.is("one more is the least", x.read(sort, 1), -1 - (half - 1));
            x.item(sort, 1, -1);
            due.is("-1", x.read(sort, 1), -1);
            if (sort < 3) {
                x.item(sort, 1, half * 2);
                due.is("no bits of it", x.read(sort, 1), 0);
                x.item(sort, 1, half * 2 + 5);
                due.is("the lowest bits", x.read(sort, 1), 5);
            }
            due.is("its neighbour", x.read(sort, 0), 0);
        }
        long[] values = {1, -1, 2, 256, 1L << 32, Long.MIN_VALUE, Long.MAX_VALUE};
        for (long value : values) {
            x.item(4, 0, value);
            due.is("whether " + value + " is not 0", x.read(4, 0), 1);
            x.item(4, 0, 0);
            due.is("0", x.read(4, 0), 0);
        }
        due.is("tape -1", x.item(-1, 0, 0), -1);
        due.is("tape 6", x.item(6, 9, 0), -1);
        due.is("nothing ahead of a place", x.item(5, 9, 0), -11);
        due.is("nothing, place -1", x.item(5, -1, 0), -11);
        due.is("place -1", x.item(0, -1, 0), -13);
        due.is("place 2", x.item(0, 2, 0), -13);
        due.is("place least", x.item(0, LEAST, 0), -13);
        due.is("place greatest", x.item(0, GREATEST, 0), -13);
    }

    private static void read() throws Exception {
        due.says("Item i of a TAPE. NO: no such TAPE, nothing there, no such place.");
        PastCatchers x = new PastCatchers();
        x.tape(0, 3, 2);
        x.item(0, 0, Long.MAX_VALUE);
        x.item(0, 1, -7);
        due.is("place 0", x.read(0, 0), Long.MAX_VALUE);
        due.is("place 1", x.read(0, 1), -7);
        due.is("place 2", x.read(0, 2), NO);
        due.is("place -1", x.read(0, -1), NO);
        due.is("place least", x.read(0, LEAST), NO);
        due.is("place greatest", x.read(0, GREATEST), NO);
        due.is("nothing there", x.read(1, 0), NO);
        due.is("tape -1", x.read(-1, 0), NO);
        due.is("tape 6", x.read(6, 0), NO);
        x.tape(0, -1, 0);
        due.is("nothing there now", x.read(0, 0), NO);
        x.tape(0, 3, 0);
        due.is("an empty row", x.read(0, 0), NO);
    }

    /** Tape 0: ints 10 .. 14; tape 1: ints 0, 0, 0; tapes 2: an empty row of ints; 3: longs; 5: nothing. */
    private static PastCatchers rows() {
        PastCatchers x = new PastCatchers();
        x.tape(0, 2, 5);
        x.tape(1, 2, 3);
        x.tape(2, 2, 0);
        x.tape(3, 3, 5);
        for (int i = 0; i < 5; i++) {
            x.item(0, i, 10 + i);
        }
        return x;
    }

    private static void holds(PastCatchers x, int tape, int... items) {
        for (int i = 0; i < items.length; i++) {
            due.is("tape " + tape + " place " + i, x.read(tape, i), items[i]);
        }
        due.is("tape " + tape + " ends", x.read(tape, items.length), NO);
    }

    private static void shift() throws Exception {
        due.says("n items of a TAPE from i on come to another one (or the same) from j on, as they all were before: n."
            + " NONE: tapes; NOTHING; CAST: of unlike sorts; PLACE: n, i or j is below 0, or beyond either's end.");
        PastCatchers x = rows();
        int[][] places = {{0, -1, 1, 0, 0}, {0, 0, 1, -1, 0}, {0, 0, 1, 0, -1}, {0, LEAST, 1, 0, 1}, {0, 0, 1, LEAST, 1},
            {0, 0, 1, 0, LEAST}, {0, 3, 1, 0, 3}, {0, 0, 1, 1, 3}, {0, 6, 1, 0, 0}, {0, 0, 1, 4, 0}, {0, 0, 2, 0, 1},
            {2, 0, 0, 0, 1}, {2, 1, 0, 0, 0}, {0, 0, 2, 1, 0}, {0, GREATEST, 1, 0, 1}, {0, 0, 1, GREATEST, 1},
            {0, 0, 1, 0, GREATEST}, {0, 1, 1, 1, GREATEST}, {0, GREATEST, 1, GREATEST, GREATEST}, {0, 5, 1, 0, 1},
            {0, 0, 1, 3, 1}, {0, 1, 0, 2, 4}, {0, -1, 0, 0, 5}};
        for (int[] c : places) {
            String call = "shift(" + c[0] + ", " + c[1] + ", " + c[2] + ", " + c[3] + ", " + c[4] + ")";
            due.is(call, x.shift(c[0], c[1], c[2], c[3], c[4]), -13);
        }
        due.is("unlike sorts", x.shift(0, 0, 3, 0, 1), -12);
        due.is("unlike sorts, nothing to come", x.shift(3, 0, 0, 0, 0), -12);
        due.is("unlike sorts ahead of a place", x.shift(0, -1, 3, 9, -1), -12);
        due.is("from nothing", x.shift(5, 0, 0, 0, 0), -11);
        due.is("to nothing", x.shift(0, 0, 5, 0, 0), -11);
        due.is("nothing to nothing", x.shift(5, 0, 4, 0, 0), -11);
        due.is("nothing ahead of a place", x.shift(0, -1, 5, -1, -1), -11);
        due.is("tape -1", x.shift(-1, 0, 0, 0, 0), -1);
        due.is("tape 6", x.shift(6, 0, 0, 0, 0), -1);
        due.is("other -1", x.shift(0, 0, -1, 0, 0), -1);
        due.is("other 6 ahead of nothing", x.shift(5, 0, 6, 0, 0), -1);
        holds(x, 0, 10, 11, 12, 13, 14);
        holds(x, 1, 0, 0, 0);
        due.is("none from the end to the end", x.shift(0, 5, 1, 3, 0), 0);
        due.is("none of an empty row", x.shift(2, 0, 2, 0, 0), 0);
        due.is("none to an empty row", x.shift(0, 5, 2, 0, 0), 0);
        due.is("the last", x.shift(0, 4, 1, 2, 1), 1);
        holds(x, 1, 0, 0, 14);
        due.is("three", x.shift(0, 1, 1, 0, 3), 3);
        holds(x, 1, 11, 12, 13);
        holds(x, 0, 10, 11, 12, 13, 14);
        due.is("back", x.shift(1, 0, 0, 2, 3), 3);
        holds(x, 0, 10, 11, 11, 12, 13);
        for (int sort = 0; sort < 5; sort++) {
            PastCatchers y = new PastCatchers();
            y.tape(4, sort, 60);
            y.tape(5, sort, 60);
            y.item(4, 0, 1);
            y.item(4, 59, 1);
            due.is("60 of sort " + sort, y.shift(4, 0, 5, 0, 60), 60);
            due.is("the first", y.read(5, 0), 1);
            due.is("the last", y.read(5, 59), 1);
            due.is("between", y.read(5, 58), 0);
            due.is("61", y.shift(4, 0, 5, 0, 61), -13);
            for (int other = 0; other < 5; other++) {
                y.tape(5, other, 60);
                due.is(sort + " to " + other, y.shift(4, 0, 5, 0, 1), sort == other ? 1 : -12);
            }
        }
    }

    private static void shiftsWithin() throws Exception {
        due.says("(or the same) from j on, as they all were before: n.");
        PastCatchers x = rows();
        due.is("up", x.shift(0, 0, 0, 1, 4), 4);
        holds(x, 0, 10, 10, 11, 12, 13);
        x = rows();
        due.is("up by two", x.shift(0, 0, 0, 2, 3), 3);
        holds(x, 0, 10, 11, 10, 11, 12);
        x = rows();
        due.is("down", x.shift(0, 1, 0, 0, 4), 4);
        holds(x, 0, 11, 12, 13, 14, 14);
        x = rows();
        due.is("all onto itself", x.shift(0, 0, 0, 0, 5), 5);
        holds(x, 0, 10, 11, 12, 13, 14);
        due.is("onto itself beyond the end", x.shift(0, 0, 0, 1, 5), -13);
        holds(x, 0, 10, 11, 12, 13, 14);
    }
}
