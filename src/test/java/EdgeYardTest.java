/** The edges of 'Terms', part 1: who the people are, THE TEXT, its CLAUSES, and the FAULT, sentence by sentence. */
public final class EdgeYardTest {
    private static final Due due = new Due();

    public static void main(String[] args) throws Exception {
        lanes();
        people();
        kinds();
        numbers();
        atFirst();
        text();
        clauses();
        blanksAndNumbers();
        expressions();
        tests();
        within();
        fault();
        yards();
        due.end("EdgeYardTest");
    }

    private static void lanes() throws Exception {
        due.says("LANES 0 .. 6.");
        PastCatchers x = Due.people(0, 6, 0, 6, 0, 0);
        due.is("person on lane -1", x.person(0, 0, -1, 0, 0), -2);
        due.is("person on lane 7", x.person(0, 0, 7, 0, 0), -2);
        due.is("person on lane 0", x.person(0, 0, 0, 0, 0), 1);
        due.is("person on lane 6", x.person(0, 0, 6, 0, 0), 2);
        due.is("lane 0", x.of(1, 2), 0);
        due.is("lane 6", x.of(2, 2), 6);
        due.is("set -1", x.set(0, 0, -1), -2);
        due.is("set 7", x.set(0, 0, 7), -2);
        due.is("set 0", x.set(0, 0, 0), 6);
        due.is("set 6", x.set(0, 0, 6), 0);
        due.is("row -1", x.row(0, 0, -1), -2);
        due.is("row 7", x.row(0, 0, 7), -2);
        due.is("row 6", x.row(0, 0, 6), 0);
        due.is("row 0", x.row(0, 0, 0), 6);
        due.is("set least", x.set(0, 0, Integer.MIN_VALUE), -2);
        due.is("set greatest", x.set(0, 0, Integer.MAX_VALUE), -2);
    }

    private static void people() throws Exception {
        due.says("PEOPLE 0 .. 6, as they come");
        PastCatchers x = new PastCatchers();
        due.is("nobody", x.of(0, 0), -1);
        for (int p = 0; p < 7; p++) {
            due.is("the next one", x.person(p, p, p, p, p), p);
            due.is("how many", x.count(0), p + 1);
            due.is("the last", x.of(p, 1), p);
            due.is("none behind the last", x.of(p + 1, 1), -1);
        }
        due.says("One of the PEOPLE: the number. NONE: kind; BAD: v, lane, pace, strength; FULL: 7.");
        due.is("an eighth", x.person(0, 0, 0, 0, 0), -4);
        due.is("seven", x.count(0), 7);
        due.is("none is 7", x.of(7, 0), -1);
        due.is("none is -1", x.of(-1, 0), -1);
        due.is("none is 32", x.of(32, 0), -1);
        due.is("the seventh is as it came", x.of(6, 0), 6);
        due.is("all run", x.told(1), 127);
        due.is("kind ahead of full", x.person(7, 0, 0, 0, 0), -1);
        due.is("kind ahead of all else", x.person(-1, 10, 7, 10, 10), -1);
        due.is("v ahead of full", x.person(0, 10, 0, 0, 0), -2);
        due.is("lane ahead of full", x.person(0, 0, 7, 0, 0), -2);
        due.is("pace ahead of full", x.person(0, 0, 0, 10, 0), -2);
        due.is("strength ahead of full", x.person(0, 0, 0, 0, 10), -2);
    }

    private static void kinds() throws Exception {
        due.says("are of KINDS: 0 RUNNER; 1 EDGED, 2 SHIELDED, 3 WAITING under RUNNER; 4 DASHING under EDGED;"
            + " 5 SEEKING under SHIELDED; 6 TOLD under WAITING");
        PastCatchers x = new PastCatchers();
        due.is("kind -1", x.person(-1, 0, 0, 0, 0), -1);
        due.is("kind 7", x.person(7, 0, 0, 0, 0), -1);
        due.is("kind least", x.person(Integer.MIN_VALUE, 0, 0, 0, 0), -1);
        due.is("kind 6", x.person(6, 0, 0, 0, 0), 0);
        due.is("kind 0", x.person(0, 0, 0, 0, 0), 1);
        due.is("is 6", x.of(0, 0), 6);
        due.is("is 0", x.of(1, 0), 0);
    }

    private static void numbers() throws Exception {
        due.says("with a number v (0 .. 9), a LANE, PACE (0 .. 9), STRENGTH (0 .. 9)");
        int[] beyond = {-1, 10, Integer.MIN_VALUE, Integer.MAX_VALUE};
        PastCatchers x = new PastCatchers();
        for (int n : beyond) {
            due.is("v " + n, x.person(0, n, 0, 0, 0), -2);
            due.is("pace " + n, x.person(0, 0, 0, n, 0), -2);
            due.is("strength " + n, x.person(0, 0, 0, 0, n), -2);
        }
        due.is("all least", x.person(0, 0, 0, 0, 0), 0);
        due.is("v 9", x.person(0, 9, 0, 0, 0), 1);
        due.is("pace 9", x.person(0, 0, 0, 9, 0), 2);
        due.is("strength 9", x.person(0, 0, 0, 0, 9), 3);
        due.is("its v", x.of(1, 1), 9);
        due.is("its pace", x.of(2, 3), 9);
        due.is("its strength", x.of(3, 4), 9);
        for (int n : beyond) {
            due.is("set strength " + n, x.set(3, 1, n), -2);
        }
        due.is("set strength 0", x.set(3, 1, 0), 9);
        due.is("set strength 9", x.set(3, 1, 9), 0);
    }

    private static void atFirst() throws Exception {
        due.says("each runs (at first), or catches.");
        PastCatchers x = new PastCatchers();
        for (int p = 0; p < 7; p++) {
            x.person(p, 0, 0, 0, 0);
            due.is("runs", x.of(p, 5), 0);
            due.is("did not catch", x.catches(p, true), 0);
            due.is("catches", x.of(p, 5), 1);
        }
        due.is("all catch", x.told(2), 127);
        due.is("none runs", x.told(1), 0);
        due.is("caught until now", x.catches(6, false), 1);
        due.is("one runs", x.told(1), 64);
        due.says("SHOUT: 0 at first.");
        due.is("shout", new PastCatchers().told(0), 0);
        due.says("`PastCatchers()`: Nobody, no YARD.");
        PastCatchers y = new PastCatchers();
        due.is("nobody", y.count(0), 0);
        due.is("no yard", y.count(1), 0);
        due.is("nobody runs", y.told(1), 0);
        due.is("nobody catches", y.told(2), 0);
        due.is("no text", y.count(3), 0);
    }

    private static void text() throws Exception {
        due.says("A YARD is read from THE TEXT (bytes, 100 at most)");
        PastCatchers x = new PastCatchers();
        for (int i = 1; i <= 100; i++) {
            due.is("byte " + i, x.feed('h'), i);
        }
        due.says("A sign (0 .. 127) comes behind THE TEXT's: how many it has. BAD; FULL.");
        due.is("a byte too many", x.feed('h'), -4);
        due.is("a bad one too many", x.feed(-1), -2);
        due.is("a hundred", x.count(3), 100);
        PastCatchers y = new PastCatchers();
        due.is("-1", y.feed(-1), -2);
        due.is("128", y.feed(128), -2);
        due.is("256 and a letter", y.feed(256 + 'h'), -2);
        due.is("none came", y.count(3), 0);
        due.is("0", y.feed(0), 1);
        due.is("127", y.feed(127), 2);
        due.is("a yard of 0, 127", y.yard(), -10);
        String whole = "hold 11 p=00" + "&p=0".repeat(22);
        due.is("its length", whole.length(), 100);
        PastCatchers z = Due.people(1, 0, 0, 0, 0, 0);
        due.is("a yard of 100 bytes", Due.yard(z, whole), 0);
        due.is("holds", z.of(0, 8), 11);
        due.is("the last of 100 bytes counts", Due.yard(z, whole.substring(0, 99) + "1"), 1);
        due.is("holds not", z.of(0, 8), 0);
        due.is("ends too early at its 100th", Due.yard(z, whole.replace("11", "1") + "&"), -110);
        due.is("the 100th is wrong", Due.yard(z, whole.substring(0, 99) + "x"), -109);
        due.is("the 101st is not there", Due.yard(z, whole + "x"), 2);
    }

    private static int hold(String text) {
        PastCatchers x = Due.people(1, 0, 0, 0, 0, 0);
        int yard = Due.yard(x, text);
        return yard < 0 ? yard : x.of(0, 8);
    }

    private static void clauses() throws Exception {
        due.says("CLAUSES, 1 to 10, with ; between: reach n E; hold n E; dodge n E");
        due.is("none", hold(""), -10);
        due.is("one", hold("hold 3 p=0"), 3);
        due.is("; alone", hold(";"), -10);
        due.is("; ahead", hold(";hold 3 p=0"), -10);
        due.is("; behind", hold("hold 3 p=0;"), -21);
        due.is(";;", hold("hold 3 p=0;;hold 3 p=0"), -21);
        due.is("a blank behind ;", hold("hold 3 p=0; hold 3 p=0"), -21);
        // Nine of the shortest are as many as THE TEXT holds.
        String nine = "hold 1 p=0" + ";hold 1 p=0".repeat(8);
        due.is("bytes of nine", nine.length(), 98);
        due.is("nine", hold(nine), 9);
        due.is("nine and a ;", hold(nine + ";"), -109);
        due.is("nine and the start of a tenth", hold(nine + ";h"), -110);
        due.is("nine and no start of a tenth", hold(nine + ";p"), -109);
        due.is("another word", hold("catch 1 p=0"), -10);
        due.is("Hold", hold("Hold 1 p=0"), -10);
        due.is("holds", hold("holds 1 p=0"), -14);
        due.is("reachs", hold("reachs 1 p=0"), -15);
        due.is("dodgy", hold("dodgy 1 p=0"), -14);
        for (String word : new String[] {"reach", "hold", "dodge"}) {
            for (int length = 0; length < word.length(); length++) {
                String begun = word.substring(0, length);
                due.is("'" + begun + "' is no word", hold(begun + " 1 p=0"), -10 - length);
                due.is("nor is '" + begun + "x'", hold(begun + "x 1 p=0"), -10 - length);
                due.is("nor is '" + begun + "' and its next sign twice",
                    hold(word.substring(0, length + 1) + word.charAt(length) + " 1 p=0"), -11 - length);
            }
        }
    }

    private static void blanksAndNumbers() throws Exception {
        due.says("(one blank ahead of each part behind the word; n 1 or 2 digits)");
        due.is("no blank ahead of n", hold("hold1 p=0"), -14);
        due.is("two ahead of n", hold("hold  1 p=0"), -15);
        due.is("no blank ahead of E", hold("hold 1p=0"), -16);
        due.is("two ahead of E", hold("hold 1  p=0"), -17);
        due.is("a tab", hold("hold\t1 p=0"), -14);
        due.is("a blank ahead", hold(" hold 1 p=0"), -10);
        due.is("a blank behind", hold("hold 1 p=0 "), -20);
        due.is("a blank within E", hold("hold 1 p =0"), -18);
        due.is("no digit", hold("hold  p=0"), -15);
        due.is("a letter", hold("hold x p=0"), -15);
        due.is("a sign ahead", hold("hold -1 p=0"), -15);
        due.is("a digit and a letter", hold("hold 1x p=0"), -16);
        due.is("one digit", hold("hold 9 p=0"), 9);
        due.is("0", hold("hold 0 p=0"), 0);
        due.is("two digits", hold("hold 99 p=0"), 99);
        due.is("00", hold("hold 00 p=0"), 0);
        due.is("07", hold("hold 07 p=0"), 7);
        due.is("three digits", hold("hold 100 p=0"), -17);
        due.is("the byte below 0", hold("hold / p=0"), -15);
        due.is("the byte above 9", hold("hold : p=0"), -15);
    }

    private static void expressions() throws Exception {
        due.says("E: T or T|E. T: F or F&T. F: !F, (E), or a TEST");
        due.is("& ahead of |, behind it", hold("hold 1 p=0|p=0&p=1"), 1);
        due.is("& ahead of |, ahead of it", hold("hold 1 p=1&p=0|p=0"), 1);
        due.is("( ) ahead of &", hold("hold 1 (p=0|p=0)&p=1"), 0);
        due.is("! is its F's alone", hold("hold 1 !p=1&p=1"), 0);
        due.is("! of ( )", hold("hold 1 !(p=1&p=1)"), 1);
        due.is("! of ! of ( )", hold("hold 1 !!(p=1)"), 0);
        due.is("( ) of ( )", hold("hold 1 ((p=0))"), 1);
        due.is("a long row of |", hold("hold 1 p=1" + "|p=1".repeat(20) + "|p=0"), 1);
        due.is("a long row of &", hold("hold 1 p=0" + "&p=0".repeat(20) + "&p=1"), 0);
        truths();
        due.is("|p", hold("hold 1 |p=0"), -17);
        due.is("&p", hold("hold 1 &p=0"), -17);
        due.is("p=0|", hold("hold 1 p=0|"), -21);
        due.is("p=0&|", hold("hold 1 p=0&|"), -21);
        due.is("p=0 !p=0", hold("hold 1 p=0!p=0"), -20);
        due.is("p=0(", hold("hold 1 p=0(p=0)"), -20);
        due.is("(p=0", hold("hold 1 (p=0"), -21);
        due.is("(p=0;", hold("hold 1 (p=0;hold 1 p=0)"), -21);
        due.is("p=0)", hold("hold 1 p=0)"), -20);
        due.is("()", hold("hold 1 ()"), -18);
        due.is("!", hold("hold 1 !"), -18);
        due.is("!)", hold("hold 1 (!)"), -19);
        due.is(")(", hold("hold 1 )("), -17);
    }

    private static String told(boolean truth) {
        return truth ? "p=0" : "p=1";
    }

    private static void truths() {
        for (int bits = 0; bits < 16; bits++) {
            boolean a = (bits & 1) != 0;
            boolean b = (bits & 2) != 0;
            boolean c = (bits & 4) != 0;
            boolean d = (bits & 8) != 0;
            truth("a|b&c|d", a || b && c || d, a, b, c, d);
            truth("a&b|c&d", a && b || c && d, a, b, c, d);
            truth("a&b&c|d", a && b && c || d, a, b, c, d);
            truth("a|b&c&d", a || b && c && d, a, b, c, d);
            truth("(a|b)&(c|d)", (a || b) && (c || d), a, b, c, d);
            truth("a&(b|c)&d", a && (b || c) && d, a, b, c, d);
            truth("a|(b|c)&d", a || (b || c) && d, a, b, c, d);
            truth("a&(b|c&d)", a && (b || c && d), a, b, c, d);
            truth("!a&b|!c&d", !a && b || !c && d, a, b, c, d);
            truth("!(a&b)|!(c|d)", !(a && b) || !(c || d), a, b, c, d);
            truth("a|!b&!!c|!d", a || !b && c || !d, a, b, c, d);
            truth("!(a|b&!(c|d))", !(a || b && !(c || d)), a, b, c, d);
        }
    }

    private static void truth(String form, boolean want, boolean a, boolean b, boolean c, boolean d) {
        String text = form.replace("a", told(a)).replace("b", told(b)).replace("c", told(c)).replace("d", told(d));
        due.is(text, hold("hold 1 " + text), want ? 1 : 0);
    }

    /** Whether a test holds of one who catches: p 2, k 4, l 6, s 8, a 3, at shout 5. */
    private static int holds(String test) {
        PastCatchers x = Due.people(4, 0, 0, 0, 0, 0, 0, 0, 0, 0, 0, 4, 9, 6, 3, 8);
        for (int i = 0; i < 5; i++) {
            x.shout();
        }
        Due.yard(x, "hold 20 " + test);
        return x.of(2, 8) == 28 ? 1 : x.of(2, 8) == 8 ? 0 : -1;
    }

    private static void tests() throws Exception {
        due.says("a TEST: a letter, < or = or >, a number (1 or 2 digits): of one of the PEOPLE p the number, k the"
            + " KIND, l LANE (of dodge: the LANE in which it runs), s STRENGTH, a PACE, y SHOUT modulo 10.");
        String letters = "pklsay";
        int[] facts = {2, 4, 6, 8, 3, 5};
        for (int i = 0; i < 6; i++) {
            char letter = letters.charAt(i);
            for (int n = facts[i] - 1; n <= facts[i] + 1; n++) {
                due.is(letter + "<" + n, holds(letter + "<" + n), facts[i] < n ? 1 : 0);
                due.is(letter + "=" + n, holds(letter + "=" + n), facts[i] == n ? 1 : 0);
                due.is(letter + ">" + n, holds(letter + ">" + n), facts[i] > n ? 1 : 0);
            }
            due.is(letter + "<0", holds(letter + "<0"), 0);
            due.is("!" + letter + "<0", holds("!" + letter + "<0"), 1);
            due.is(letter + ">99", holds(letter + ">99"), 0);
            due.is(letter + "=0", holds(letter + "=0"), 0);
            due.is("!" + letter + "=00", holds("!" + letter + "=00"), 1);
            due.is(letter + "<99", holds(letter + "<99"), 1);
            due.is(letter + ">0", holds(letter + ">0"), 1);
            due.is(letter + "=0" + facts[i], holds(letter + "=0" + facts[i]), 1);
            due.is(letter + "=1" + facts[i], holds(letter + "=1" + facts[i]), 0);
        }
        due.is("no digit", hold("hold 1 p="), -19);
        due.is("no digit, a letter", hold("hold 1 p=p"), -19);
        due.is("three digits", hold("hold 1 p=000"), -21);
        due.is("no relation", hold("hold 1 p0"), -18);
        due.is("two relations", hold("hold 1 p<=0"), -19);
        due.is("another letter", hold("hold 1 v=0"), -17);
        due.is("a great letter", hold("hold 1 K=0"), -17);
        due.is("a number first", hold("hold 1 0=p"), -17);
        due.is("no letter ahead of <", hold("hold 1 <1"), -17);
        due.is("no letter ahead of =", hold("hold 1 =0"), -17);
        due.is("no letter ahead of >", hold("hold 1 >0"), -17);
        due.is("a number alone", hold("hold 1 1"), -17);

        PastCatchers x = Due.people(0, 1, 0, 3, 0, 0, 1, 0, 4, 0, 0);
        Due.yard(x, "dodge 7 l=0;dodge 20 l=3;dodge 40 l=4;dodge 8 l=6");
        due.is("of dodge the lane in which it runs", x.of(0, 9), 7);
        due.is("of dodge the lane in which the other runs", x.of(1, 9), 8);
        x.catches(0, true);
        Due.yard(x, "hold 7 l=0;hold 20 l=3;reach 3 l=3;reach 4 l=0");
        due.is("of hold the lane", x.of(0, 8), 20);
        due.is("of reach the lane", x.of(0, 7), 3);

        PastCatchers y = Due.people(1, 0, 0, 0, 0, 0);
        Due.yard(y, "hold 1 y=0;hold 2 y=9;hold 4 y>9;hold 8 y=1");
        int[] want = {1, 8, 0, 0, 0, 0, 0, 0, 0, 2, 1, 8};
        for (int i = 0; i < want.length; i++) {
            due.is("at shout " + i, y.of(0, 8), want[i]);
            y.shout();
        }
    }

    private static void within() throws Exception {
        due.says("A ( or ! within 4 others is none.");
        due.is("four (", hold("hold 1 ((((p=0))))"), 1);
        due.is("five (", hold("hold 1 (((((p=0)))))"), -21);
        due.is("four !", hold("hold 1 !!!!p=0"), 1);
        due.is("five !", hold("hold 1 !!!!!p=0"), -21);
        due.is("a ! within four (", hold("hold 1 ((((!p=0))))"), -21);
        due.is("a ( within four !", hold("hold 1 !!!!(p=0)"), -21);
        due.is("mixed", hold("hold 1 (!(!p=0))"), 1);
        due.is("mixed, and one more", hold("hold 1 (!(!(p=0)))"), -21);
        due.is("three and a row of !", hold("hold 1 (((!p=1&!p=1|!p=1)))"), 1);
        due.is("four, closed, four again", hold("hold 1 ((((p=0))))&((((p=0))))"), 1);
        due.is("four, closed to three, one more", hold("hold 1 ((((p=0))&(p=0)))"), 1);
        due.is("four !, then five", hold("hold 1 !!!!p=0|!!!!!p=0"), -29);
        due.is("four, and the next clause's four", hold("hold 1 ((((p=0))));hold 2 !!!!p=0"), 3);
    }

    private static void fault() throws Exception {
        due.says("The FAULT: the place of the first byte with which none begins so (the end of THE TEXT, if it ends too"
            + " early).");
        String text = "reach 12 !(p=12&k<3)|s>4;dodge 5 a=6";
        for (int length = 0; length <= text.length(); length++) {
            // Whole behind the ), behind 4, and at the end.
            boolean whole = length == 20 || length == 24 || length == text.length();
            due.is("'" + text.substring(0, length) + "'", hold(text.substring(0, length)), whole ? 0 : -10 - length);
            if (length < text.length()) {
                due.is("'" + text.substring(0, length) + "~'", hold(text.substring(0, length) + "~"), -10 - length);
                due.is("'" + text.substring(0, length) + "' and a byte 0", hold(text.substring(0, length)
                    + "\0" + text.substring(length)), -10 - length);
            }
        }
        due.is("the first of two faults", hold("hold 1 p=x;hold x"), -19);
        due.says("-10 less the FAULT (the one that held holds).");
        PastCatchers x = Due.people(1, 0, 0, 0, 0, 0);
        due.is("a yard", Due.yard(x, "hold 5 p=0"), 0);
        due.is("a fault behind a whole clause", Due.yard(x, "hold 9 p=0;hold 9 p"), -29);
        due.is("holds", x.of(0, 8), 5);
        due.is("one yard", x.count(1), 1);
        due.is("the next is 1", Due.yard(x, "hold 6 p=0"), 1);
        due.is("it holds", x.of(0, 8), 6);
        for (int i = 0; i < 9; i++) {
            due.is("a long fault", Due.yard(x, "hold 1 p=0" + "&p=0".repeat(22) + "&"), -109);
        }
        due.is("leaves nothing of itself", Due.yard(x, "hold 1 p=0" + "&p=0".repeat(21) + "&p=1"), 2);
        due.is("holds not", x.of(0, 8), 0);
        due.is("a fault behind two clauses", Due.yard(x, "reach 5 p=0;hold 7 p=0;x"), -33);
        due.is("a shorter one", Due.yard(x, "hold 4 p=0"), 3);
        due.is("none of these counts: hold", x.of(0, 8), 4);
        due.is("none of these counts: reach", x.of(0, 7), 1);
        due.says("THE TEXT, which is empty then, is a YARD, and holds: its number.");
        due.is("empty", x.count(3), 0);
        due.is("empty behind a fault", Due.yard(x, "hold"), -14);
        due.is("empty then", x.count(3), 0);
        due.is("an empty text", x.yard(), -10);
    }

    private static void yards() throws Exception {
        due.says("The newest YARD holds (6 at most); without one there are no CLAUSES.");
        PastCatchers x = Due.people(1, 0, 0, 0, 0, 4, 0, 0, 0, 3, 2);
        due.is("reach", x.of(0, 7), 1);
        due.is("hold", x.of(0, 8), 4);
        due.is("slip", x.of(1, 9), 5);
        due.is("a fault", Due.yard(x, "hold"), -14);
        due.is("reach behind a fault", x.of(0, 7), 1);
        for (int i = 0; i < 6; i++) {
            due.is("yard " + i, Due.yard(x, "hold " + i + "0 p=0"), i);
            due.is("holds", x.of(0, 8), 4 + 10 * i);
        }
        due.says("and holds: its number. FULL: there are 6 (THE TEXT stays); -10 less the FAULT");
        due.is("a seventh", Due.yard(x, "hold 99 p=0"), -4);
        due.is("a seventh again", x.yard(), -4);
        due.is("the text", x.count(3), 11);
        due.is("behind it", x.feed(';'), 12);
        due.is("no yard, though it is none", x.yard(), -4);
        due.is("the sixth holds", x.of(0, 8), 54);
        due.is("six", x.count(1), 6);
    }
}
