/** Promises 34 to 37: tapes. */
public final class TapeTest {
    private static final Due due = new Due();
    private static final long NO = PastCatchers.NO;

    public static void main(String[] args) {
        tape();
        item();
        read();
        shift();
        due.end("TapeTest");
    }

    private static void tape() {
        PastCatchers x = new PastCatchers();
        due.is("tape -1", x.tape(-1, 9, 99), -1);
        due.is("tape 6", x.tape(6, 0, 1), -1);
        due.is("sort -2", x.tape(0, -2, 1), -2);
        due.is("sort 5", x.tape(0, 5, -1), -2);
        due.is("n 61", x.tape(0, 0, 61), -2);
        due.is("n -1", x.tape(0, 0, -1), -14);
        due.is("n least", x.tape(0, 4, Integer.MIN_VALUE), -14);
        due.is("still nothing", x.item(0, 0, 1), -11);
        due.is("n 60", x.tape(0, 3, 60), 1);
        due.is("the last place", x.item(0, 59, 5), 1);
        due.is("n 0", x.tape(5, 4, 0), 1);
        due.is("no place", x.item(5, 0, 1), -13);
        due.is("again", x.tape(0, 3, 60), 1);
        due.is("all 0", x.read(0, 59), 0);
        due.is("nothing", x.tape(0, -1, 61), 1);
        due.is("nothing is there", x.item(0, 0, 1), -11);
        due.is("nothing to read", x.read(0, 0), NO);
        due.is("nothing twice", x.tape(0, -1, -1), 1);
    }

    private static void item() {
        PastCatchers x = new PastCatchers();
        long[] values = {0, 1, -1, 127, 128, 255, 256, 32767, 32768, 65535, 65536, 2147483647L, 2147483648L,
            Long.MAX_VALUE, Long.MIN_VALUE};
        for (int sort = 0; sort < 5; sort++) {
            x.tape(sort, sort, 3);
        }
        for (long value : values) {
            for (int sort = 0; sort < 5; sort++) {
                due.is("item", x.item(sort, 2, value), 1);
            }
            due.is("byte " + value, x.read(0, 2), (byte) value);
            due.is("short " + value, x.read(1, 2), (short) value);
            due.is("int " + value, x.read(2, 2), (int) value);
            due.is("long " + value, x.read(3, 2), value);
            due.is("boolean " + value, x.read(4, 2), value == 0 ? 0 : 1);
            due.is("beside it", x.read(0, 1), 0);
        }
        due.is("tape 6", x.item(6, 0, 0), -1);
        due.is("tape -1", x.item(-1, 0, 0), -1);
        due.is("nothing", x.item(5, -1, 0), -11);
        due.is("place 3", x.item(0, 3, 0), -13);
        due.is("place -1", x.item(0, -1, 0), -13);
        due.is("place least", x.item(0, Integer.MIN_VALUE, 0), -13);
    }

    private static void read() {
        PastCatchers x = new PastCatchers();
        x.tape(2, 2, 2);
        x.item(2, 0, -9);
        due.is("read", x.read(2, 0), -9);
        due.is("0 at first", x.read(2, 1), 0);
        due.is("place 2", x.read(2, 2), NO);
        due.is("place -1", x.read(2, -1), NO);
        due.is("nothing", x.read(3, 0), NO);
        due.is("tape 6", x.read(6, 0), NO);
        due.is("tape -1", x.read(-1, 0), NO);
    }

    private static PastCatchers rows() {
        PastCatchers x = new PastCatchers();
        x.tape(0, 2, 5);
        x.tape(1, 2, 3);
        x.tape(2, 3, 5);
        for (int i = 0; i < 5; i++) {
            x.item(0, i, 10 + i);
        }
        return x;
    }

    private static void holds(PastCatchers x, int tape, int... items) {
        for (int i = 0; i < items.length; i++) {
            due.is("tape " + tape + " place " + i, x.read(tape, i), items[i]);
        }
    }

    private static void shift() {
        PastCatchers x = rows();
        due.is("to another", x.shift(0, 2, 1, 0, 3), 3);
        holds(x, 1, 12, 13, 14);
        holds(x, 0, 10, 11, 12, 13, 14);
        due.is("up", x.shift(0, 0, 0, 1, 4), 4);
        holds(x, 0, 10, 10, 11, 12, 13);
        x = rows();
        due.is("down", x.shift(0, 1, 0, 0, 4), 4);
        holds(x, 0, 11, 12, 13, 14, 14);
        due.is("none at the ends", x.shift(0, 5, 1, 3, 0), 0);
        due.is("none beyond the end", x.shift(0, 6, 1, 0, 0), -13);
        due.is("none beyond the other's end", x.shift(0, 0, 1, 4, 0), -13);
        due.is("n -1", x.shift(0, 0, 1, 0, -1), -13);
        due.is("i -1", x.shift(0, -1, 1, 0, 1), -13);
        due.is("j -1", x.shift(0, 0, 1, -1, 1), -13);
        due.is("beyond the one", x.shift(0, 3, 1, 0, 3), -13);
        due.is("beyond the other", x.shift(0, 0, 1, 1, 3), -13);
        due.is("far beyond", x.shift(0, 1, 1, 1, Integer.MAX_VALUE), -13);
        due.is("unlike sorts", x.shift(0, -1, 2, 0, 1), -12);
        due.is("from nothing", x.shift(3, -1, 0, 0, 1), -11);
        due.is("to nothing", x.shift(0, 0, 3, 0, 1), -11);
        due.is("tape 6", x.shift(6, 0, 3, 0, 1), -1);
        due.is("other -1", x.shift(3, 0, -1, 0, 1), -1);
        holds(x, 0, 11, 12, 13, 14, 14);
        holds(x, 1, 0, 0, 0);
    }
}
