/** Promises 7 and 8: the text and the yards that are read from it. */
public final class YardTest {
    private static final Due due = new Due();

    public static void main(String[] args) {
        feed();
        faults();
        nesting();
        numbers();
        meaning();
        newestHolds();
        fullOfYards();
        due.end("YardTest");
    }

    private static void feed() {
        PastCatchers x = new PastCatchers();
        due.is("sign -1", x.feed(-1), -2);
        due.is("sign 128", x.feed(128), -2);
        due.is("sign 0", x.feed(0), 1);
        due.is("sign 127", x.feed(127), 2);
        for (int i = 3; i <= 100; i++) {
            due.is("sign " + i, x.feed(' '), i);
        }
        due.is("the 101st", x.feed(' '), -4);
        due.is("bad ahead of full", x.feed(128), -2);
        due.is("how many", x.count(3), 100);
        due.is("a yard of nonsense", x.yard(), -10);
        due.is("the text is empty", x.count(3), 0);
        due.is("from the start", x.feed('h'), 1);
    }

    private static void fault(String text, int place) {
        PastCatchers x = new PastCatchers();
        due.is("'" + text + "'", Due.yard(x, text), -10 - place);
        due.is("no yard", x.count(1), 0);
        due.is("text is empty", x.count(3), 0);
    }

    private static void stands(String text) {
        PastCatchers x = new PastCatchers();
        due.is("'" + text + "'", Due.yard(x, text), 0);
        due.is("a yard", x.count(1), 1);
        due.is("the text is empty", x.count(3), 0);
    }

    private static void faults() {
        fault("", 0);
        fault(" hold 1 p=1", 0);
        fault("x", 0);
        fault("rat", 1);
        fault("hole 1 p=1", 3);
        fault("r 1 p=1", 1);
        fault("hol 1 p=1", 3);
        fault("dodg 1 p=1", 4);
        fault("dodged 1 p=1", 5);
        fault("reach", 5);
        fault("reach ", 6);
        fault("reach  1 p=1", 6);
        fault("reach x", 6);
        fault("reach 1", 7);
        fault("reach 1;", 7);
        fault("reach 123 p=1", 8);
        fault("reach 1 ", 8);
        fault("reach 1 x=1", 8);
        fault("reach 1 P=1", 8);
        fault("reach 1 1=p", 8);
        fault("reach 1 p", 9);
        fault("reach 1 p!1", 9);
        fault("reach 1 p=", 10);
        fault("reach 1 p==1", 10);
        fault("reach 1 p=123", 12);
        fault("reach 1 p=1 ", 11);
        fault("reach 1 p=1)", 11);
        fault("reach 1 (p=1", 12);
        fault("reach 1 (p=1;", 12);
        fault("reach 1 ()", 9);
        fault("reach 1 p=1|", 12);
        fault("reach 1 p=1||p=2", 12);
        fault("reach 1 p=1&", 12);
        fault("reach 1 p=1!", 11);
        fault("reach 1 p=1;", 12);
        fault("reach 1 p=1;;", 12);
        fault("reach 1 p=1; hold 1 p=1", 12);
        fault("reach 1 p=1;hold 1 q=1", 19);
        fault("reach 1 p<=1", 10);
        stands("reach 1 p=1");
        stands("hold 01 k<99;dodge 99 l>0|s=9&a<5;reach 0 !y=7");
        StringBuilder nine = new StringBuilder("hold 1 p=1");
        for (int i = 1; i < 9; i++) {
            nine.append(";hold 1 p=1");
        }
        stands(nine.toString());
        fault(nine + ";", 99);
        fault(nine + "&", 99);
    }

    private static void nesting() {
        stands("hold 1 ((((p=1))))");
        fault("hold 1 (((((p=1)))))", 11);
        stands("hold 1 !!!!p=1");
        fault("hold 1 !!!!!p=1", 11);
        stands("hold 1 !(!(p=1))");
        fault("hold 1 !(!((p=1)))", 11);
        fault("hold 1 !(!(!p=1))", 11);
        // A ! ends with its F: what follows is within none.
        stands("hold 1 !!!!p=1&!!!!p=2|((((p=1))))");
        stands("hold 1 ((((p=1)|p=2)&p=3)|!p=4)");
        fault("hold 1 ((((p=1)|!(p=2))&p=3)|!p=4)", 17);
    }

    /** How far one of the people reaches by a text. */
    private static int reach(PastCatchers x, String text) {
        Due.yard(x, text);
        return x.of(0, 7);
    }

    private static void numbers() {
        PastCatchers x = new PastCatchers();
        x.person(0, 0, 0, 0, 0);
        x.catches(0, true);
        due.is("two digits", reach(x, "reach 42 p=00"), 42);
        due.is("a nought ahead", reach(x, "reach 07 p<01"), 7);
        due.is("nought", reach(x, "reach 0 p=0"), 0);
        due.is("together", reach(x, "reach 99 p=0;reach 99 p<1;reach 99 p>0"), 198);
    }

    private static void holdsFor(String test, boolean does) {
        PastCatchers x = new PastCatchers();
        for (int i = 0; i < 2; i++) {
            x.person(0, 0, 0, 0, 0);
        }
        x.person(5, 1, 6, 3, 8);
        x.shout();
        x.shout();
        x.shout();
        x.shout();
        x.catches(2, true);
        Due.yard(x, "reach 5 " + test);
        due.is("p2 k5 l6 s8 a3 y4: " + test, x.of(2, 7), does ? 5 : 0);
    }

    private static void meaning() {
        String[] right = {"p=2", "k=5", "l=6", "s=8", "a=3", "y=4", "p<3", "p>1", "k<6", "k>4", "l<7",
            "l>5", "s<9", "s>7", "a<4", "a>2", "y<5", "y>3", "!p=1", "(p=2)", "!!p=2", "!(p=1)",
            "p=2&k=5", "p=1|k=5", "p=2|k=1", "p=2|k=1&l=1", "k=1&l=1|p=2", "(p=2|k=1)&l=6",
            "!p=1&k=5", "!(p=2&k=1)", "!p=2|k=5", "p=1|k=1|l=6", "p=2&k=5&l=6", "p=2&(k=5&l=6)", "p=2&(k=5&!(l=5&s=8))", "(p=1|p=2)&!(k=1|k=2)"};
        for (String test : right) {
            holdsFor(test, true);
        }
        String[] wrong = {"p=1", "k=6", "l=5", "s=9", "a=4", "y=5", "p<2", "p>2", "s<8", "s>8", "!p=2",
            "!!p=1", "p=2&k=1", "p=1&k=5", "p=1|k=1", "(p=2|k=1)&l=1", "!(p=2|k=1)", "!p=2&k=5",
            "p=2&k=5&l=1", "p=1|k=1|l=1", "p=12", "l=06&p=02&s=80"};
        for (String test : wrong) {
            holdsFor(test, false);
        }
        PastCatchers x = new PastCatchers();
        for (int i = 0; i < 12; i++) {
            x.shout();
        }
        x.person(0, 0, 0, 0, 0);
        x.catches(0, true);
        due.is("shout modulo 10", reach(x, "reach 3 y=2"), 3);
    }

    private static void newestHolds() {
        PastCatchers x = new PastCatchers();
        x.person(0, 0, 0, 0, 0);
        x.catches(0, true);
        due.is("first", Due.yard(x, "reach 3 p=0"), 0);
        due.is("holds", x.of(0, 7), 3);
        due.is("a fault", Due.yard(x, "reach 4"), -17);
        due.is("the first holds", x.of(0, 7), 3);
        due.is("a fault behind a clause", Due.yard(x, "reach 5 p=0;hold 7 p=0;x"), -33);
        due.is("second", Due.yard(x, "hold 4 p=0"), 1);
        due.is("no reach clauses now", x.of(0, 7), 1);
        due.is("hold", x.of(0, 8), 4);
        String many = "hold 1 p=0" + "&p=0".repeat(20);
        for (int i = 0; i < 8; i++) {
            due.is("a long fault", Due.yard(x, many + "&"), -101);
        }
        due.is("third", Due.yard(x, many + "&p=1|p=0"), 2);
        due.is("faults leave nothing", x.of(0, 8), 1);
    }

    private static void fullOfYards() {
        PastCatchers x = new PastCatchers();
        x.person(0, 0, 0, 0, 0);
        x.catches(0, true);
        for (int i = 0; i < 6; i++) {
            due.is("yard " + i, Due.yard(x, "reach " + i + " p=0"), i);
        }
        due.is("a seventh", Due.yard(x, "reach 9 p=0"), -4);
        due.is("text stays", x.count(3), 11);
        due.is("full ahead of a fault", Due.yard(x, "!"), -4);
        due.is("text stays too", x.count(3), 12);
        due.is("the sixth holds", x.of(0, 7), 5);
        due.is("six", x.count(1), 6);
    }
}
