import java.util.ArrayList;
import java.util.Comparator;
import java.util.HashMap;
import java.util.List;
import java.util.Map;
import java.util.function.Predicate;
import java.util.function.ToIntFunction;
import java.util.regex.Pattern;
import java.util.stream.Collectors;
import java.util.stream.IntStream;

/** What the document says, written a second time: plainly, slowly, and with the Java library. */
final class Model {
    static final long NO = Long.MIN_VALUE;
    private static final int[] ABOVE = {-1, 0, 0, 0, 1, 2, 3};

    static final class Person implements Cloneable {
        int kind, v, lane, pace, strength, number;
        boolean catches, gone;
        int[] row = new int[4];

        Person copy() {
            Person p = new Person();
            p.kind = kind;
            p.v = v;
            p.lane = lane;
            p.pace = pace;
            p.strength = strength;
            p.number = number;
            p.catches = catches;
            p.row = row.clone();
            return p;
        }

        boolean runs() {
            return !catches && !gone;
        }

        boolean isCatcher() {
            return catches && !gone;
        }
    }

    static final class All {
        List<Person> people = new ArrayList<>();
        int shout, seen;
        List<Integer> book = new ArrayList<>();
        String holds = "";

        All copy() {
            All a = new All();
            for (Person p : people) {
                a.people.add(p.copy());
            }
            a.shout = shout;
            a.seen = seen;
            a.book = new ArrayList<>(book);
            a.holds = holds;
            return a;
        }
    }

    static final class Ask {
        final All all;
        final Map<Integer, Integer> ways = new HashMap<>();
        boolean hands;
        int behind = -1, other = -1;

        Ask(All from) {
            all = from.copy();
        }

        int clauses(String word, Person p, int lane) {
            int sum = 0;
            for (String clause : all.holds.split(";")) {
                String[] parts = clause.split(" ");
                if (parts[0].equals(word)) {
                    int[] facts = {p.number, p.kind, lane, p.strength, p.pace, all.shout % 10};
                    sum += expression(parts[2]).test(facts) ? Integer.parseInt(parts[1]) : 0;
                }
            }
            return sum;
        }

        int reach(Person p) {
            return all.holds.contains("reach") ? clauses("reach", p, p.lane) : 1;
        }

        int hold(Person p) {
            return p.strength + clauses("hold", p, p.lane);
        }

        int slip(Person p) {
            return p.strength + p.pace + clauses("dodge", p, way(p)) + (p.kind == 4 ? p.v : 0);
        }

        List<Person> catchers() {
            return all.people.stream().filter(Person::isCatcher).collect(Collectors.toList());
        }

        List<Person> runners() {
            return all.people.stream().filter(Person::runs).collect(Collectors.toList());
        }

        boolean reaches(Person p, int lane) {
            return hands || Math.abs(p.lane - lane) <= reach(p);
        }

        int way(Person p) {
            if (p.number == behind) {
                return way(all.people.get(other));
            }
            if (ways.containsKey(p.number)) {
                return ways.get(p.number);
            }
            switch (p.kind) {
                case 1: case 4:
                    return p.lane <= 3 ? 0 : 6;
                case 2:
                    return runners().stream().filter(q -> q != p)
                        .min(Comparator.comparingInt((Person q) -> -q.strength).thenComparingInt(q -> q.number))
                        .map(q -> q.lane).orElse(p.lane);
                case 5:
                    return IntStream.rangeClosed(0, 6).boxed()
                        .min(Comparator.comparingLong((Integer lane) -> catchers().stream()
                                .filter(c -> reaches(c, lane)).count())
                            .thenComparingInt(lane -> Math.abs(lane - p.lane))
                            .thenComparingInt(lane -> lane)).orElseThrow();
                case 6:
                    return p.row[all.shout % 4];
                default:
                    return p.lane;
            }
        }

        /** Who is caught, one behind the other. */
        List<Integer> caught() {
            List<Person> line = runners();
            line.sort(Comparator.comparingInt((Person p) -> p.kind == 3 || p.kind == 6 ? 1 : 0)
                .thenComparingInt(p -> -p.pace).thenComparingInt(p -> p.number));
            if (behind >= 0) {
                Person follower = all.people.get(behind);
                line.remove(follower);
                line.add(line.indexOf(all.people.get(other)) + 1, follower);
            }
            List<Person> free = catchers();
            List<Integer> caught = new ArrayList<>();
            for (Person p : line) {
                int way = way(p);
                List<Person> meets = free.stream().filter(c -> reaches(c, way)).collect(Collectors.toList());
                if (meets.stream().mapToInt(this::hold).sum() > slip(p)) {
                    caught.add(p.number);
                    free.removeAll(meets);
                }
            }
            return caught;
        }

        List<Integer> shout() {
            List<Integer> caught = caught();
            caught.forEach(p -> all.people.get(p).catches = true);
            all.shout++;
            return caught;
        }
    }

    private static final Map<String, Predicate<int[]>> EXPRESSIONS = new HashMap<>();

    private static Predicate<int[]> expression(String text) {
        Predicate<int[]> known = EXPRESSIONS.get(text);
        if (known == null) {
            known = understood(text);
            EXPRESSIONS.put(text, known);
        }
        return known;
    }

    private static Predicate<int[]> understood(String text) {
        for (char joint : new char[] {'|', '&'}) {
            int depth = 0;
            for (int i = 0; i < text.length(); i++) {
                char sign = text.charAt(i);
                depth += sign == '(' ? 1 : sign == ')' ? -1 : 0;
                if (depth == 0 && sign == joint) {
                    Predicate<int[]> left = understood(text.substring(0, i));
                    Predicate<int[]> right = understood(text.substring(i + 1));
                    return joint == '|' ? left.or(right) : left.and(right);
                }
            }
        }
        if (text.charAt(0) == '!') {
            return understood(text.substring(1)).negate();
        }
        if (text.charAt(0) == '(') {
            return understood(text.substring(1, text.length() - 1));
        }
        int letter = "pklsay".indexOf(text.charAt(0));
        int number = Integer.parseInt(text.substring(2));
        char relation = text.charAt(1);
        return facts -> relation == '<' ? facts[letter] < number
            : relation == '>' ? facts[letter] > number : facts[letter] == number;
    }

    private static final Pattern YARD = yardPattern();

    private static Pattern yardPattern() {
        String test = "[pklsay][<=>][0-9]{1,2}+";
        String one = test;
        for (int depth = 0; depth < 4; depth++) {
            one = "(?:" + test + "|!" + one + "|\\(" + either(one) + "\\))";
        }
        String clause = "(?:reach|hold|dodge) [0-9]{1,2}+ " + either(one);
        return Pattern.compile(clause + "(?:;" + clause + "){0,9}+");
    }

    private static String either(String one) {
        String both = one + "(?:&" + one + ")*+";
        return both + "(?:\\|" + both + ")*+";
    }

    private static boolean isYard(String text) {
        return YARD.matcher(text).matches();
    }

    private static final List<String> ENDS = new ArrayList<>();

    static {
        for (String word : new String[] {"reach 1 p=1", "hold 1 p=1", "dodge 1 p=1"}) {
            for (int i = 0; i <= word.length(); i++) {
                for (String close : new String[] {"", ")", "))", ")))", "))))"}) {
                    ENDS.add(word.substring(i) + close);
                }
            }
        }
    }

    /** Whether some yard begins so. */
    private static boolean begins(String text) {
        return ENDS.stream().anyMatch(end -> isYard(text + end));
    }

    /** -1: none. */
    static int fault(String text) {
        if (isYard(text)) {
            return -1;
        }
        int right = 0;
        while (right < text.length() && begins(text.substring(0, right + 1))) {
            right++;
        }
        return right;
    }

    All now = new All();
    All image;
    final StringBuilder text = new StringBuilder();
    int yards;
    final List<Integer> trace = new ArrayList<>();
    final Object[] tapes = new Object[6];

    private Person at(int p) {
        return p >= 0 && p < now.people.size() ? now.people.get(p) : null;
    }

    private static int bits(List<Integer> list) {
        return list.stream().mapToInt(p -> 1 << p).sum();
    }

    private boolean ofNobody(int bits) {
        return bits < 0 || bits >= 1 << now.people.size();
    }

    int person(int kind, int v, int lane, int pace, int strength) {
        if (kind < 0 || kind > 6) {
            return -1;
        }
        if (v < 0 || v > 9 || lane < 0 || lane > 6 || pace < 0 || pace > 9 || strength < 0 || strength > 9) {
            return -2;
        }
        if (now.people.size() == 7) {
            return -4;
        }
        Person p = new Person();
        p.kind = kind;
        p.v = v;
        p.lane = lane;
        p.pace = pace;
        p.strength = strength;
        p.number = now.people.size();
        now.people.add(p);
        return p.number;
    }

    int of(int person, int what) {
        Person p = at(person);
        if (p == null || what < 0 || what > 9) {
            return -1;
        }
        Ask ask = new Ask(now);
        Person q = ask.all.people.get(person);
        int[] plain = {p.kind, p.v, p.lane, p.pace, p.strength, p.catches ? 1 : 0};
        if (what < 6) {
            return plain[what];
        }
        if (p.catches) {
            return what == 7 ? ask.reach(q) : what == 8 ? ask.hold(q) : -5;
        }
        return what == 6 ? ask.way(q) : what == 9 ? ask.slip(q) : -5;
    }

    int set(int person, int what, int n) {
        Person p = at(person);
        if (p == null || what != 0 && what != 1) {
            return -1;
        }
        if (n < 0 || n > (what == 0 ? 6 : 9)) {
            return -2;
        }
        int was = what == 0 ? p.lane : p.strength;
        p.lane = what == 0 ? n : p.lane;
        p.strength = what == 1 ? n : p.strength;
        return was;
    }

    int catches(int person, boolean does) {
        Person p = at(person);
        if (p == null) {
            return -1;
        }
        int was = p.catches ? 1 : 0;
        p.catches = does;
        return was;
    }

    int row(int person, int part, int n) {
        Person p = at(person);
        if (p == null || part < 0 || part > 3) {
            return -1;
        }
        if (n < 0 || n > 6) {
            return -2;
        }
        if (p.kind != 6) {
            return -3;
        }
        int was = p.row[part];
        p.row[part] = n;
        return was;
    }

    int feed(int sign) {
        if (sign < 0 || sign > 127) {
            return -2;
        }
        if (text.length() == 100) {
            return -4;
        }
        text.append((char) sign);
        return text.length();
    }

    int yard() {
        if (yards == 6) {
            return -4;
        }
        String read = text.toString();
        text.setLength(0);
        int fault = fault(read);
        if (fault >= 0) {
            return -10 - fault;
        }
        now.holds = read;
        return yards++;
    }

    int told(int what) {
        Ask ask = new Ask(now);
        switch (what) {
            case 0: return now.shout;
            case 1: return ask.runners().stream().mapToInt(p -> 1 << p.number).sum();
            case 2: return ask.catchers().stream().mapToInt(p -> 1 << p.number).sum();
            default: return -1;
        }
    }

    int shout() {
        if (now.shout == 999) {
            return -3;
        }
        Ask ask = new Ask(now);
        int caught = bits(ask.shout());
        now = ask.all;
        return caught;
    }

    int on(int n, int what) {
        if (what != 0 && what != 1) {
            return -1;
        }
        if (n < 0 || n > 30) {
            return -2;
        }
        Ask ask = new Ask(now);
        int caught = 0;
        for (int i = 0; i < n; i++) {
            caught += ask.shout().size();
        }
        return what == 1 ? caught : ask.runners().stream().mapToInt(p -> 1 << p.number).sum();
    }

    int last(int what) {
        if (what != 0 && what != 1) {
            return -1;
        }
        Ask ask = new Ask(now);
        int shouts = 0;
        while (ask.runners().size() > 1 && shouts < 30) {
            ask.shout();
            shouts++;
        }
        if (ask.runners().size() > 1) {
            return -5;
        }
        return what == 1 ? shouts : ask.runners().stream().map(p -> p.number).findFirst().orElse(-5);
    }

    /** The first choice by which the value is the highest, and the value; {-5, -5}: no choice. */
    private static int[] highest(List<Integer> choices, ToIntFunction<Integer> value) {
        int[] best = {-5, -5};
        for (int choice : choices) {
            int one = value.applyAsInt(choice);
            if (one > best[1]) {
                best = new int[] {choice, one};
            }
        }
        return best;
    }

    private static final List<Integer> LANES = List.of(0, 1, 2, 3, 4, 5, 6);

    int first(int what) {
        if (what != 0 && what != 1) {
            return -1;
        }
        List<Integer> runners = new Ask(now).runners().stream().map(p -> p.number).collect(Collectors.toList());
        return highest(runners, p -> {
            Ask ask = new Ask(now);
            ask.all.people.get(p).catches = true;
            return ask.caught().size();
        })[what];
    }

    private List<Integer> caughtFrom(int catcher, int lane) {
        Ask ask = new Ask(now);
        ask.all.people.get(catcher).lane = lane;
        return ask.caught();
    }

    int stand(int person, int what) {
        Person p = at(person);
        if (p == null || what != 0 && what != 1) {
            return -1;
        }
        return !p.catches ? -3 : highest(LANES, lane -> caughtFrom(person, lane).size())[what];
    }

    int best(int person) {
        Person p = at(person);
        if (p == null) {
            return -1;
        }
        return p.catches ? -3 : LANES.stream().filter(lane -> {
            Ask ask = new Ask(now);
            ask.ways.put(person, lane);
            return !ask.caught().contains(person);
        }).mapToInt(lane -> 1 << lane).sum();
    }

    int need(int person) {
        Person p = at(person);
        if (p == null) {
            return -1;
        }
        return p.catches ? -3 : IntStream.rangeClosed(0, 9).filter(strength -> {
            Ask ask = new Ask(now);
            ask.all.people.get(person).strength = strength;
            return !ask.caught().contains(person);
        }).findFirst().orElse(-5);
    }

    int hands() {
        Ask ask = new Ask(now);
        ask.hands = true;
        return ask.caught().stream().findFirst().orElse(-5);
    }

    int alone(int person) {
        Person p = at(person);
        if (p == null) {
            return -1;
        }
        if (!p.catches) {
            return -3;
        }
        Ask ask = new Ask(now);
        ask.all.people.forEach(q -> q.gone = q.catches && q.number != person);
        return ask.caught().size();
    }

    int spread(int k) {
        if (k < -1 || k > 2) {
            return -1;
        }
        List<Person> catchers = new Ask(now).catchers();
        int many = catchers.size();
        if (many > 3) {
            return -9;
        }
        List<List<Integer>> rows = new ArrayList<>();
        rows.add(List.of());
        for (int i = 0; i < many; i++) {
            rows = rows.stream().flatMap(row -> LANES.stream().map(lane -> {
                List<Integer> longer = new ArrayList<>(row);
                longer.add(lane);
                return longer;
            })).collect(Collectors.toList());
        }
        int most = -1;
        List<Integer> best = List.of();
        for (List<Integer> row : rows) {
            Ask ask = new Ask(now);
            for (int i = 0; i < many; i++) {
                ask.all.people.get(catchers.get(i).number).lane = row.get(i);
            }
            int caught = ask.caught().size();
            if (caught > most) {
                most = caught;
                best = row;
            }
        }
        return k == -1 ? most : k < best.size() ? best.get(k) : -5;
    }

    int behind(int person, int other) {
        Person p = at(person);
        Person q = at(other);
        if (p == null || q == null) {
            return -1;
        }
        if (p == q) {
            return -2;
        }
        if (p.catches || q.catches) {
            return -3;
        }
        Ask ask = new Ask(now);
        ask.behind = person;
        ask.other = other;
        return ask.caught().contains(person) ? 0 : 1;
    }

    int see(int bits) {
        if (ofNobody(bits)) {
            return -2;
        }
        int was = now.seen;
        now.seen = bits;
        return was;
    }

    int moved(int person) {
        Person p = at(person);
        if (p == null) {
            return -1;
        }
        return !p.catches ? -3 : LANES.stream().filter(lane -> bits(caughtFrom(person, lane)) == now.seen)
            .mapToInt(lane -> 1 << lane).sum();
    }

    private static long fraction(int above, int below, int part) {
        for (int by = below; by > 1; by--) {
            if (above % by == 0 && below % by == 0) {
                return (part == 0 ? above : below) / by;
            }
        }
        return part == 0 ? above : below;
    }

    long odds(int person, int catcher, int part) {
        Person p = at(person);
        Person q = at(catcher);
        if (p == null || q == null || part != 0 && part != 1 || p.catches || !q.catches) {
            return NO;
        }
        return fraction((int) LANES.stream().filter(lane -> caughtFrom(catcher, lane).contains(person)).count(),
            7, part);
    }

    long mean(int n, int part) {
        if (n < 1 || n > 30 || part != 0 && part != 1) {
            return NO;
        }
        Ask ask = new Ask(now);
        int together = 0;
        for (int i = 0; i < n; i++) {
            ask.shout();
            together += ask.runners().size();
        }
        return fraction(together, n, part);
    }

    int book(int bits) {
        if (bits == -1) {
            now.book.clear();
            return 0;
        }
        if (ofNobody(bits)) {
            return -2;
        }
        if (now.book.size() == 12) {
            return -4;
        }
        now.book.add(bits);
        return now.book.size();
    }

    int looked() {
        Ask ask = new Ask(now);
        int number = 0;
        for (int bits : now.book) {
            number++;
            if (bits(ask.shout()) != bits) {
                return number;
            }
        }
        return -5;
    }

    int judge(int tape, int i) {
        if (tape < 0 || tape > 5) {
            return -1;
        }
        if (tapes[tape] != null && !(tapes[tape] instanceof boolean[])) {
            return -12;
        }
        boolean[] row = tapes[tape] == null ? new boolean[0] : (boolean[]) tapes[tape];
        for (Person p : now.people) {
            if (i < 0 || i >= row.length - p.number) {
                return 100 + p.number;
            }
            if (row[i + p.number] == p.catches) {
                return p.number;
            }
        }
        return -5;
    }

    int image() {
        image = now.copy();
        return now.people.size();
    }

    int undo() {
        if (image == null) {
            return -3;
        }
        now = image.copy();
        return now.people.size();
    }

    private class Runner {
        final int i;
        final int v;

        Runner(int i, int v) {
            this.i = i;
            this.v = v;
        }

        int runs(int x) {
            trace.add(10);
            return x + i;
        }

        int holds(int x) {
            trace.add(11);
            return runs(x) - v;
        }

        int tells(int x) {
            trace.add(12);
            return holds(x) * 2;
        }
    }

    private class Edged extends Runner {
        Edged(int i, int v) {
            super(i, v);
        }

        @Override int holds(int x) {
            trace.add(20);
            return super.holds(x) ^ 6;
        }
    }

    private class Shielded extends Runner {
        Shielded(int i, int v) {
            super(i, v);
        }

        @Override int runs(int x) {
            trace.add(30);
            return super.runs(x * 3);
        }
    }

    private class Waiting extends Runner {
        Waiting(int i, int v) {
            super(i, v);
        }

        @Override int tells(int x) {
            trace.add(40);
            return super.tells(x) + holds(1);
        }
    }

    private final class Dashing extends Edged {
        Dashing(int i, int v) {
            super(i, v);
        }

        @Override int runs(int x) {
            trace.add(50);
            return -super.runs(x);
        }

        @Override int holds(int x) {
            trace.add(51);
            return super.holds(x + 1);
        }
    }

    private final class Seeking extends Shielded {
        Seeking(int i, int v) {
            super(i, v);
        }

        @Override int tells(int x) {
            trace.add(60);
            return super.tells(x - i);
        }
    }

    private final class Told extends Waiting {
        Told(int i, int v) {
            super(i, v);
        }

        @Override int holds(int x) {
            trace.add(70);
            return super.holds(x) + super.runs(2);
        }

        @Override int runs(int x) {
            trace.add(71);
            return super.runs(x) ^ v;
        }
    }

    private Runner made(Person p) {
        switch (p.kind) {
            case 1: return new Edged(p.number, p.v);
            case 2: return new Shielded(p.number, p.v);
            case 3: return new Waiting(p.number, p.v);
            case 4: return new Dashing(p.number, p.v);
            case 5: return new Seeking(p.number, p.v);
            case 6: return new Told(p.number, p.v);
            default: return new Runner(p.number, p.v);
        }
    }

    int act(int person, int act, int x) {
        trace.clear();
        Person p = at(person);
        if (p == null || act < 0 || act > 2) {
            return 0;
        }
        Runner r = made(p);
        return act == 0 ? r.runs(x) : act == 1 ? r.holds(x) : r.tells(x);
    }

    int trace(int i) {
        return i >= 0 && i < trace.size() && i < 20 ? trace.get(i) : -1;
    }

    int taken(int person, int k) {
        if (k < 0 || k > 6) {
            return -2;
        }
        Person p = at(person);
        if (p == null) {
            return -11;
        }
        for (int kind = p.kind; kind >= 0; kind = ABOVE[kind]) {
            if (kind == k) {
                return p.kind;
            }
        }
        return -12;
    }

    int count(int what) {
        switch (what) {
            case 0: return now.people.size();
            case 1: return yards;
            case 2: return now.book.size();
            case 3: return text.length();
            case 4: return trace.size();
            default: return -2;
        }
    }

    int tape(int tape, int sort, int n) {
        if (tape < 0 || tape > 5) {
            return -1;
        }
        if (sort < -1 || sort > 4 || sort >= 0 && n > 60) {
            return -2;
        }
        if (sort >= 0 && n < 0) {
            return -14;
        }
        switch (sort) {
            case 0: tapes[tape] = new byte[n]; break;
            case 1: tapes[tape] = new short[n]; break;
            case 2: tapes[tape] = new int[n]; break;
            case 3: tapes[tape] = new long[n]; break;
            case 4: tapes[tape] = new boolean[n]; break;
            default: tapes[tape] = null; break;
        }
        return 1;
    }

    int item(int tape, int i, long v) {
        if (tape < 0 || tape > 5) {
            return -1;
        }
        if (tapes[tape] == null) {
            return -11;
        }
        if (i < 0 || i >= java.lang.reflect.Array.getLength(tapes[tape])) {
            return -13;
        }
        if (tapes[tape] instanceof byte[]) {
            ((byte[]) tapes[tape])[i] = (byte) v;
        } else if (tapes[tape] instanceof short[]) {
            ((short[]) tapes[tape])[i] = (short) v;
        } else if (tapes[tape] instanceof int[]) {
            ((int[]) tapes[tape])[i] = (int) v;
        } else if (tapes[tape] instanceof long[]) {
            ((long[]) tapes[tape])[i] = v;
        } else {
            ((boolean[]) tapes[tape])[i] = v != 0;
        }
        return 1;
    }

    long read(int tape, int i) {
        if (tape < 0 || tape > 5 || tapes[tape] == null || i < 0
            || i >= java.lang.reflect.Array.getLength(tapes[tape])) {
            return NO;
        }
        if (tapes[tape] instanceof boolean[]) {
            return ((boolean[]) tapes[tape])[i] ? 1 : 0;
        }
        return java.lang.reflect.Array.getLong(tapes[tape], i);
    }

    int shift(int tape, int i, int other, int j, int n) {
        if (tape < 0 || tape > 5 || other < 0 || other > 5) {
            return -1;
        }
        if (tapes[tape] == null || tapes[other] == null) {
            return -11;
        }
        try {
            System.arraycopy(tapes[tape], i, tapes[other], j, n);
        } catch (ArrayStoreException e) {
            return -12;
        } catch (IndexOutOfBoundsException e) {
            return -13;
        }
        return n;
    }
}
