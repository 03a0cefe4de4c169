/** Promises 23 to 26: odds, mean, and the book. */
public final class OddsBookTest {
    private static final Due due = new Due();
    private static final long NO = PastCatchers.NO;

    public static void main(String[] args) {
        odds();
        mean();
        book();
        looked();
        due.end("OddsBookTest");
    }

    private static void odds() {
        PastCatchers x = new PastCatchers();
        x.person(0, 0, 3, 0, 0);
        x.person(0, 0, 6, 0, 5);
        due.is("the second runs", x.odds(0, 1, 0), NO);
        x.catches(1, true);
        due.is("3 of 7 above", x.odds(0, 1, 0), 3);
        due.is("3 of 7 below", x.odds(0, 1, 1), 7);
        due.is("part 2", x.odds(0, 1, 2), NO);
        due.is("part -1", x.odds(0, 1, -1), NO);
        due.is("the first catches", x.odds(1, 1, 0), NO);
        due.is("no first", x.odds(2, 1, 0), NO);
        due.is("no second", x.odds(0, 2, 0), NO);
        due.is("no second below", x.odds(0, -1, 0), NO);
        x.set(0, 0, 0);
        due.is("2 of 7", x.odds(0, 1, 0), 2);
        Due.yard(x, "reach 6 p=1");
        due.is("surely", x.odds(0, 1, 0), 1);
        due.is("surely, below", x.odds(0, 1, 1), 1);
        Due.yard(x, "reach 9 p=1");
        due.is("surely, and from no lane 7", x.odds(0, 1, 0), 1);
        Due.yard(x, "dodge 9 p=0");
        due.is("never", x.odds(0, 1, 0), 0);
        due.is("never, below", x.odds(0, 1, 1), 1);
        due.is("lane stays", x.of(1, 2), 6);
    }

    private static void mean() {
        PastCatchers x = new PastCatchers();
        due.is("nobody", x.mean(7, 0), 0);
        due.is("nobody, below", x.mean(7, 1), 1);
        for (int lane = 0; lane < 6; lane++) {
            x.person(0, 0, lane, 0, 9 - lane);
        }
        x.catches(0, true);
        // 4, 3, 2, 1, 0, 0 .. run behind shouts 1, 2 ..
        due.is("one", x.mean(1, 0), 4);
        due.is("one, below", x.mean(1, 1), 1);
        due.is("7 by 2", x.mean(2, 0), 7);
        due.is("7 by 2, below", x.mean(2, 1), 2);
        due.is("10 by 4 is 5", x.mean(4, 0), 5);
        due.is("by 2", x.mean(4, 1), 2);
        due.is("10 by 30 is 1", x.mean(30, 0), 1);
        due.is("by 3", x.mean(30, 1), 3);
        due.is("n 0", x.mean(0, 0), NO);
        due.is("n 31", x.mean(31, 0), NO);
        due.is("part 2", x.mean(1, 2), NO);
        due.is("part -1", x.mean(1, -1), NO);
        due.is("nothing changed", x.told(0), 0);
    }

    private static void book() {
        PastCatchers x = new PastCatchers();
        due.is("nobody's", x.book(1), -2);
        due.is("empty", x.book(-1), 0);
        x.person(0, 0, 0, 0, 0);
        for (int i = 1; i <= 12; i++) {
            due.is("row " + i, x.book(i % 2), i);
        }
        due.is("a thirteenth", x.book(0), -4);
        due.is("bad ahead of full", x.book(2), -2);
        due.is("below", x.book(-2), -2);
        due.is("how many", x.count(2), 12);
        due.is("empty again", x.book(-1), 0);
        due.is("none", x.count(2), 0);
        due.is("from the start", x.book(0), 1);
    }

    private static void looked() {
        PastCatchers x = new PastCatchers();
        for (int lane = 0; lane < 6; lane++) {
            x.person(0, 0, lane, 0, 9 - lane);
        }
        x.catches(0, true);
        due.is("no book", x.looked(), -5);
        x.book(2);
        x.book(4);
        due.is("as it is", x.looked(), -5);
        x.book(16);
        due.is("shout 3 is otherwise", x.looked(), 3);
        x.book(0);
        due.is("the first of them", x.looked(), 3);
        x.shout();
        // From now on it is 4, 8, 16.
        due.is("shout 1 is otherwise from now", x.looked(), 1);
        x.book(-1);
        x.book(4);
        due.is("from now", x.looked(), -5);
        x.book(-1);
        due.is("empty", x.looked(), -5);
        due.is("nothing changed", x.told(0), 1);
    }
}
