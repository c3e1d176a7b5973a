import java.util.ArrayDeque;
import java.util.ArrayList;
import java.util.Arrays;
import java.util.Collections;
import java.util.HashMap;
import java.util.HashSet;
import java.util.List;
import java.util.Map;
import java.util.Set;
import java.util.TreeMap;
import java.util.function.IntPredicate;

/**
 * The document once more, written without regard to cost: texts are cut into TOKENS first, questions are
 * answered by trying everything. RandomTest holds HeldCoats against it.
 */
final class Oracle {
    static final Set<String> WORDS = new HashSet<>(Arrays.asList(("seat man coat cold summer holds moths limit lies lent kept wears day "
        + "or and not bare held of under worth days cloth number").split(" ")));

    static final class Fault extends Exception {
        private static final long serialVersionUID = 1L;
        final int kind;
        final int place;

        Fault(int kind, int place) {
            this.kind = kind;
            this.place = place;
        }
    }

    record Token(String text, int place) {
        boolean is(String s) {
            return text.equals(s);
        }

        boolean isWord() {
            return text.matches("[a-z]{1,7}");
        }

        boolean isName() {
            return isWord() && !WORDS.contains(text);
        }

        boolean isNumber() {
            return text.matches("[0-9]{1,3}");
        }
    }

    /** A text's TOKENS; behind the last stands one with no text, at the place where the end is a FAULT. */
    static final class Text {
        final List<Token> tokens = new ArrayList<>();
        final boolean tooLong;
        int next;

        Text(String s, int most) {
            tooLong = s.length() > most;
            int at = 0;
            while (at < s.length() && at < most) {
                char c = s.charAt(at);
                int from = at;
                at++;
                if (c == ' ' || c == '\n') {
                    continue;
                }
                if (isRun(c)) {
                    while (at < s.length() && isRun(s.charAt(at))) {
                        at++;
                    }
                }
                tokens.add(new Token(s.substring(from, at), from));
            }
            tokens.add(new Token("", tooLong ? most : s.length()));
        }

        static boolean isRun(char c) {
            return c >= 'a' && c <= 'z' || c >= '0' && c <= '9';
        }

        Token peek() {
            return tokens.get(next);
        }

        boolean over() {
            return next == tokens.size() - 1 && !tooLong;
        }

        Fault wrong(int kind) {
            return new Fault(kind, peek().place);
        }

        Token take(boolean can) throws Fault {
            if (!can) {
                throw wrong(1);
            }
            return tokens.get(next++);
        }

        void take(String s) throws Fault {
            take(peek().is(s));
        }

        int number(int least, int most) throws Fault {
            Token t = peek();
            if (t.isNumber() && (Integer.parseInt(t.text) < least || Integer.parseInt(t.text) > most)) {
                throw wrong(2);
            }
            return Integer.parseInt(take(t.isNumber()).text);
        }
    }

    static final class City {
        final Map<String, String> sorts = new HashMap<>();
        final Map<String, Integer> numbers = new HashMap<>();
        final List<Integer> worth = new ArrayList<>();
        final List<Integer> hardy = new ArrayList<>();
        final List<int[]> coats = new ArrayList<>();
        final TreeMap<Integer, Integer> colds = new TreeMap<>();
        final Map<String, Integer> once = new HashMap<>();
        int lines;

        int told(String word) {
            int without = word.equals("holds") ? 9 : word.equals("moths") ? 1 : word.equals("limit") ? 200 : 0;
            return once.getOrDefault(word, without);
        }

        int cold(int day) {
            return colds.floorKey(day) == null ? 0 : colds.floorEntry(day).getValue();
        }

        boolean summer(int day) {
            return cold(day) < told("summer");
        }

        int name(Text t, String sort) throws Fault {
            if (t.peek().isName() && !sort.equals(sorts.get(t.peek().text))) {
                throw t.wrong(3);
            }
            return numbers.get(t.take(t.peek().isName()).text);
        }

        void newName(Text t, String sort, int number, int most, Token first) throws Fault {
            if (number == most) {
                throw new Fault(4, first.place);
            }
            if (sorts.containsKey(t.peek().text)) {
                throw t.wrong(3);
            }
            String name = t.take(t.peek().isName()).text;
            sorts.put(name, sort);
            numbers.put(name, number);
        }

        static City read(String s) throws Fault {
            City city = new City();
            Text t = new Text(s, 900);
            while (!t.over()) {
                city.line(t);
                t.take(";");
                city.lines++;
            }
            return city;
        }

        private void line(Text t) throws Fault {
            Token first = t.take(t.peek().text.matches("seat|man|coat|cold|summer|holds|moths|limit"));
            switch (first.text) {
                case "seat" -> {
                    newName(t, "seat", worth.size(), 8, first);
                    worth.add(t.number(1, 99));
                }
                case "man" -> {
                    newName(t, "man", hardy.size(), 6, first);
                    hardy.add(t.number(0, 20));
                }
                case "coat" -> {
                    newName(t, "coat", coats.size(), 8, first);
                    coats.add(new int[] {name(t, "man"), t.number(0, 20), t.number(1, 99)});
                }
                case "cold" -> {
                    if (colds.size() == 8) {
                        throw new Fault(4, first.place);
                    }
                    Token at = t.peek();
                    int from = t.number(0, 399);
                    if (colds.containsKey(from)) {
                        throw new Fault(3, at.place);
                    }
                    colds.put(from, t.number(0, 40));
                }
                default -> {
                    if (once.containsKey(first.text)) {
                        throw new Fault(3, first.place);
                    }
                    int[] range = switch (first.text) {
                        case "summer" -> new int[] {0, 40};
                        case "holds" -> new int[] {1, 30};
                        case "moths" -> new int[] {0, 9};
                        default -> new int[] {1, 999};
                    };
                    once.put(first.text, t.number(range[0], range[1]));
                }
            }
        }
    }

    /** All that is so. A COAT: where it is as coat(c, 3) tells it, CLOTH, USER, DAYS. */
    static final class Life {
        final City city;
        int day;
        final List<Integer> bare = new ArrayList<>();
        final List<Integer> queue = new ArrayList<>();
        final List<Integer> rulers = new ArrayList<>();
        final int[] where;
        final int[] cloth;
        final int[] user;
        final int[] lain;
        final int[] harm;

        Life(City city) {
            this.city = city;
            int n = city.coats.size();
            where = new int[n];
            cloth = new int[n];
            user = new int[n];
            lain = new int[n];
            harm = new int[city.hardy.size()];
            for (int c = 0; c < n; c++) {
                where[c] = city.coats.get(c)[0];
                user[c] = where[c];
                cloth[c] = city.coats.get(c)[2];
            }
        }

        Life copy() {
            Life o = new Life(city);
            o.day = day;
            o.bare.addAll(bare);
            o.queue.addAll(queue);
            o.rulers.addAll(rulers);
            System.arraycopy(where, 0, o.where, 0, where.length);
            System.arraycopy(cloth, 0, o.cloth, 0, where.length);
            System.arraycopy(user, 0, o.user, 0, where.length);
            System.arraycopy(lain, 0, o.lain, 0, where.length);
            System.arraycopy(harm, 0, o.harm, 0, harm.length);
            return o;
        }

        int owner(int c) {
            return city.coats.get(c)[0];
        }

        int on(int s) {
            for (int c = 0; c < where.length; c++) {
                if (where[c] == 10 + s) {
                    return c;
                }
            }
            return -1;
        }

        int holder(int s, boolean summerCounts) {
            return on(s) < 0 || summerCounts && city.summer(day) ? -1 : owner(on(s));
        }

        int heldWorth(int m, boolean summerCounts) {
            int sum = 0;
            for (int s = 0; s < city.worth.size(); s++) {
                sum += holder(s, summerCounts) == m ? city.worth.get(s) : 0;
            }
            return sum;
        }

        int ruler(boolean summerCounts) {
            int best = -1;
            for (int m = city.hardy.size() - 1; m >= 0; m--) {
                int w = heldWorth(m, summerCounts);
                if (w > 0 && (best < 0 || w >= heldWorth(best, summerCounts))) {
                    best = m;
                }
            }
            return best;
        }

        int chill(int m, int cold, IntPredicate worn) {
            int left = cold - city.hardy.get(m);
            for (int c = 0; c < where.length; c++) {
                left -= worn.test(c) ? city.coats.get(c)[1] : 0;
            }
            return Math.max(left, 0);
        }

        int chill(int m) {
            return chill(m, city.cold(day), c -> where[c] == m);
        }

        int lay(int c, int s) {
            if (where[c] >= 10) {
                return 1;
            }
            if (on(s) >= 0) {
                return 2;
            }
            where[c] = 10 + s;
            lain[c] = 0;
            return 0;
        }

        int wear(int m, int c) {
            if (where[c] < 10 || where[c] == 30) {
                return 1;
            }
            if (m != user[c] && m != owner(c)) {
                return 2;
            }
            queue.remove((Integer) c);
            where[c] = m;
            return 0;
        }

        int lend(int c, int m) {
            if (where[c] == 30) {
                return 1;
            }
            if (user[c] == m) {
                return 2;
            }
            user[c] = m;
            return 0;
        }

        int keep(int c) {
            if (where[c] >= 10) {
                return 1;
            }
            where[c] = 20;
            queue.add(c);
            return 0;
        }

        boolean goDay() {
            if (day == 400) {
                return false;
            }
            int ruler = ruler(true);
            rulers.add(ruler);
            if (ruler < 0) {
                bare.add(day);
            }
            for (int m = 0; m < harm.length; m++) {
                harm[m] += chill(m) * chill(m);
            }
            for (int c = 0; c < where.length; c++) {
                if (where[c] >= 10 && where[c] < 20) {
                    cloth[c] -= city.told("moths");
                    lain[c]++;
                    if (cloth[c] <= 0) {
                        cloth[c] = 0;
                        where[c] = 30;
                    } else if (lain[c] == city.told("holds")) {
                        where[c] = 20;
                        queue.add(c);
                    }
                }
            }
            day++;
            return true;
        }

        int go(int n) {
            int went = 0;
            for (int k = 0; k < n; k++) {
                went += goDay() ? 1 : 0;
            }
            return went;
        }

        int drawn(int n, int seed) {
            int[] x = {seed};
            int went = 0;
            for (int k = 0; k < n && day < 400; k++) {
                for (int c = 0; c < where.length; c++) {
                    int d = draw(x, 6);
                    if (d == 0 && !city.worth.isEmpty()) {
                        lay(c, draw(x, city.worth.size()));
                    }
                    if (d == 1) {
                        wear(owner(c), c);
                    }
                    if (d == 2) {
                        keep(c);
                    }
                }
                goDay();
                went++;
            }
            return went;
        }

        private static int draw(int[] x, int n) {
            x[0] = x[0] * 1103515245 + 12345;
            return (x[0] >>> 8) % n;
        }
    }

    /** A SENTENCE as a tree. */
    interface Saying {
        boolean of(int s, Life life);
    }

    static final class Speech {
        final City city;
        final Text t;
        int ones;
        Saying whole;

        Speech(City city, String s) throws Fault {
            this.city = city;
            t = new Text(s, 200);
            whole = cond(0);
            if (!t.over()) {
                throw t.wrong(1);
            }
        }

        private Saying cond(int outer) throws Fault {
            Saying left = all(outer);
            while (t.peek().is("or")) {
                t.take("or");
                Saying a = left;
                Saying b = all(outer);
                left = (s, life) -> a.of(s, life) || b.of(s, life);
            }
            return left;
        }

        private Saying all(int outer) throws Fault {
            Saying left = one(outer);
            while (t.peek().is("and")) {
                t.take("and");
                Saying a = left;
                Saying b = one(outer);
                left = (s, life) -> a.of(s, life) && b.of(s, life);
            }
            return left;
        }

        private Saying one(int outer) throws Fault {
            Token first = t.take(t.peek().text.matches("not|\\(|bare|held|of|under|worth|days|cloth|number"));
            ones++;
            if (ones > 20 || outer >= 8) {
                throw new Fault(4, first.place);
            }
            switch (first.text) {
                case "not": {
                    Saying a = one(outer + 1);
                    return (s, life) -> !a.of(s, life);
                }
                case "(": {
                    Saying a = cond(outer + 1);
                    t.take(")");
                    return a;
                }
                case "bare":
                    return (s, life) -> life.on(s) < 0;
                case "held":
                    return (s, life) -> life.holder(s, true) >= 0;
                case "of": {
                    int m = city.name(t, "man");
                    return (s, life) -> life.holder(s, true) == m;
                }
                case "under": {
                    int c = city.name(t, "coat");
                    return (s, life) -> life.on(s) == c;
                }
                default:
                    return measured(first.text);
            }
        }

        private Saying measured(String what) throws Fault {
            String sign = t.take(t.peek().text.matches("[<=>]")).text;
            int n = t.number(0, 999);
            return (s, life) -> {
                int c = life.on(s);
                int v = switch (what) {
                    case "worth" -> life.city.worth.get(s);
                    case "number" -> s;
                    case "days" -> c < 0 ? 0 : life.lain[c];
                    default -> c < 0 ? 0 : life.cloth[c];
                };
                return sign.equals("<") ? v < n : sign.equals("=") ? v == n : v > n;
            };
        }
    }

    record Kept(City city, Life life, Speech speech) {
    }

    City city = new City();
    Life life = new Life(city);
    Speech speech;
    String tape = "";
    int fault;
    final ArrayDeque<Life> undo = new ArrayDeque<>();
    final Kept[] images = new Kept[2];
    int laid = -1;
    int turns = -1;
    int surely = -1;
    int never = -1;
    int price = -1;
    int[] told = {-1, -1, -1, -1};

    boolean isSeat(int s) {
        return s >= 0 && s < city.worth.size();
    }

    boolean isMan(int m) {
        return m >= 0 && m < city.hardy.size();
    }

    boolean isCoat(int c) {
        return c >= 0 && c < city.coats.size();
    }

    private String empty() {
        String was = tape;
        tape = "";
        fault = 0;
        return was;
    }

    private void act(Life before) {
        undo.push(before);
        if (undo.size() > 8) {
            undo.removeLast();
        }
    }

    int capital() {
        try {
            city = City.read(empty());
            life = new Life(city);
            speech = null;
            undo.clear();
            return city.lines;
        } catch (Fault f) {
            fault = f.kind;
            return -1 - f.place;
        }
    }

    int seat(int s, int what) {
        if (!isSeat(s)) {
            return -1;
        }
        int c = life.on(s);
        return switch (what) {
            case 0 -> city.worth.get(s);
            case 1 -> c;
            case 2 -> life.holder(s, true);
            case 3 -> c < 0 ? 0 : life.lain[c];
            default -> -1;
        };
    }

    /** NoSuchElementException is told as -99. */
    int man(int m, int what) {
        if (!isMan(m)) {
            return -99;
        }
        return switch (what) {
            case 0 -> city.hardy.get(m);
            case 1 -> life.chill(m);
            case 2 -> life.harm[m];
            case 3 -> coats(c -> life.where[c] == m);
            case 4 -> bits(city.worth.size(), s -> life.holder(s, true) == m);
            case 5 -> life.heldWorth(m, true);
            case 6 -> Collections.frequency(life.rulers, m);
            case 7 -> coats(c -> life.owner(c) == m && life.where[c] != 30);
            default -> -99;
        };
    }

    int coat(int c, int what) {
        if (!isCoat(c)) {
            return -99;
        }
        return switch (what) {
            case 0 -> life.owner(c);
            case 1 -> city.coats.get(c)[1];
            case 2 -> life.cloth[c];
            case 3 -> life.where[c];
            case 4 -> life.user[c];
            default -> -99;
        };
    }

    int now(int what) {
        return switch (what) {
            case 0 -> life.day;
            case 1 -> city.cold(life.day);
            case 2 -> city.summer(life.day) ? 1 : 0;
            case 3 -> life.ruler(true);
            case 4 -> life.bare.size();
            case 5 -> life.bare.isEmpty() ? -1 : life.bare.get(0);
            case 6 -> life.queue.size();
            case 7 -> coats(c -> life.where[c] == 30);
            default -> -1;
        };
    }

    private int coats(IntPredicate p) {
        return bits(city.coats.size(), p);
    }

    private static int bits(int n, IntPredicate p) {
        int b = 0;
        for (int k = 0; k < n; k++) {
            b += p.test(k) ? 1 << k : 0;
        }
        return b;
    }

    int act(int kind, int a, int b) {
        boolean known = switch (kind) {
            case 0 -> isCoat(a) && isSeat(b);
            case 1 -> isMan(a) && isCoat(b);
            case 2 -> isCoat(a) && isMan(b);
            default -> isCoat(a);
        };
        if (!known) {
            return -1;
        }
        Life before = life.copy();
        int why = switch (kind) {
            case 0 -> life.lay(a, b);
            case 1 -> life.wear(a, b);
            case 2 -> life.lend(a, b);
            default -> life.keep(a);
        };
        if (why == 0) {
            act(before);
        }
        return why;
    }

    int days(int n) {
        if (n < 1 || n > 60) {
            return -1;
        }
        Life before = life.copy();
        int went = life.go(n);
        if (went > 0) {
            act(before);
        }
        return went;
    }

    int undo() {
        if (undo.isEmpty()) {
            return -1;
        }
        life = undo.pop();
        return undo.size();
    }

    /** Every way to lay COAT by COAT on any SEAT or none. */
    int best(int m, int h) {
        if (!isMan(m) || h < 0 || h > 999) {
            return -1;
        }
        int[] found = {-1, -1};
        tryLaying(m, h, 0, life.copy(), 0, 0, found);
        if (found[0] >= 0) {
            laid = found[1];
        }
        return found[0];
    }

    private void tryLaying(int m, int h, int c, Life there, int set, int worth, int[] found) {
        if (c == city.coats.size()) {
            boolean better = worth > found[0] || worth == found[0] && set < found[1];
            if (there.chill(m) * there.chill(m) <= h && better) {
                found[0] = worth;
                found[1] = set;
            }
            return;
        }
        tryLaying(m, h, c + 1, there, set, worth, found);
        if (there.owner(c) == m && there.where[c] == m) {
            for (int s = 0; s < city.worth.size(); s++) {
                Life next = there.copy();
                if (next.lay(c, s) == 0) {
                    tryLaying(m, h, c + 1, next, set | 1 << c, worth + city.worth.get(s), found);
                }
            }
        }
    }

    int share(int m, int o, int c, int n) {
        if (!isMan(m) || !isMan(o) || m == o || !isCoat(c) || n < 1 || n > 30 || life.where[c] == 30) {
            return -1;
        }
        turns = 0;
        int sum = 0;
        for (int k = 0; k < n; k++) {
            int cold = city.cold(life.day + k);
            int a = square(life.chill(m, cold, x -> x == c || life.where[x] == m))
                + square(life.chill(o, cold, x -> x != c && life.where[x] == o));
            int b = square(life.chill(o, cold, x -> x == c || life.where[x] == o))
                + square(life.chill(m, cold, x -> x != c && life.where[x] == m));
            turns |= b < a ? 1 << k : 0;
            sum += b < a ? b : a;
        }
        return sum;
    }

    private static int square(int n) {
        return n * n;
    }

    /** Breadth first over all queues that bribes can make. */
    int bribes(int set) {
        if (set < 0 || set >> city.coats.size() != 0 || (set & ~coats(c -> life.where[c] == 20)) != 0) {
            return -1;
        }
        List<List<Integer>> reached = new ArrayList<>();
        reached.add(life.queue);
        Set<List<Integer>> seen = new HashSet<>(reached);
        for (int many = 0; ; many++) {
            List<List<Integer>> next = new ArrayList<>();
            for (List<Integer> q : reached) {
                int firsts = 0;
                for (int c : q.subList(0, Integer.bitCount(set))) {
                    firsts |= 1 << c;
                }
                if (firsts == set) {
                    return many;
                }
                for (Integer c : q) {
                    List<Integer> moved = new ArrayList<>(q);
                    moved.remove(c);
                    moved.add(0, c);
                    if (seen.add(moved)) {
                        next.add(moved);
                    }
                }
            }
            reached = next;
        }
    }

    int frost(int m, int o, boolean when) {
        if (!isMan(m) || !isMan(o) || m == o) {
            return -1;
        }
        int[] has = new int[2];
        int limit = city.told("limit");
        for (int d = life.day; d < 400; d++) {
            has[0] += square(life.chill(m, city.cold(d), c -> false));
            has[1] += square(life.chill(o, city.cold(d), c -> false));
            if (has[0] > limit && (has[1] <= limit || has[0] > has[1])) {
                return when ? d : o;
            }
            if (has[1] > limit && (has[0] <= limit || has[1] > has[0])) {
                return when ? d : m;
            }
            if (has[0] > limit) {
                return -1;
            }
        }
        return -1;
    }

    int word(int n) {
        if (n < 1 || n > 60) {
            return -1;
        }
        Life there = life.copy();
        int many = 0;
        for (int k = 0; k < n && there.day < 400; k++) {
            many += there.ruler(true) != there.ruler(false) ? 1 : 0;
            there.goDay();
        }
        return many;
    }

    int first(int ruler) {
        Life there = life.copy();
        there.rulers.clear();
        there.go(400);
        int at = there.rulers.indexOf(ruler);
        return at < 0 ? -1 : life.day + at;
    }

    int rules(int m) {
        return isMan(m) ? first(m) : -1;
    }

    int harm(int m, int n) {
        if (!isMan(m) || n < 1 || n > 60) {
            return -1;
        }
        Life there = life.copy();
        there.go(n);
        return there.harm[m] - life.harm[m];
    }

    /** Every row of COATS on the SEATS. */
    int hooks() {
        String s = tape;
        tape = "";
        if (s.isEmpty() || s.length() != city.worth.size()) {
            return -1;
        }
        for (char b : s.toCharArray()) {
            if (b != 9 && !isMan(b)) {
                return -1;
            }
        }
        int[] found = {0, -1, 0};
        hang(s, 0, 0, found);
        if (found[0] > 0) {
            surely = found[1];
            never = coats(c -> true) & ~found[2];
        }
        return found[0];
    }

    private void hang(String s, int at, int used, int[] found) {
        if (at == s.length()) {
            found[0]++;
            found[1] &= used;
            found[2] |= used;
            return;
        }
        if (s.charAt(at) == 9) {
            hang(s, at + 1, used, found);
            return;
        }
        for (int c = 0; c < city.coats.size(); c++) {
            if (life.owner(c) == s.charAt(at) && (used >> c & 1) == 0) {
                hang(s, at + 1, used | 1 << c, found);
            }
        }
    }

    int rounds() {
        price = 5;
        for (int round = 1; round <= 60; round++) {
            int above = 0;
            for (int m = 0; m < city.hardy.size(); m++) {
                above += square(life.chill(m)) > price ? 1 : 0;
            }
            int next = Math.max(0, price + Integer.compare(above, life.queue.size()));
            if (next == price) {
                return round;
            }
            price = next;
        }
        return 60;
    }

    int drawn(int n, int seed) {
        if (n < 1 || n > 60 || city.coats.isEmpty()) {
            return -1;
        }
        Life before = life.copy();
        int went = life.drawn(n, seed);
        if (went > 0) {
            act(before);
        }
        return went;
    }

    int odds(int m, int n, int seed) {
        if (!isMan(m) || n < 1 || n > 30 || city.coats.isEmpty()) {
            return -1;
        }
        int many = 0;
        for (int k = 0; k < n; k++) {
            Life there = life.copy();
            there.rulers.clear();
            there.drawn(20, seed + k);
            many += there.rulers.contains(m) ? 1 : 0;
        }
        return many;
    }

    int book(int lives) {
        if (lives != 0 && lives != 1) {
            return -1000;
        }
        List<String[]> lines = new ArrayList<>();
        try {
            Text t = new Text(empty(), 400);
            while (!t.over()) {
                lines.add(bookLine(t, lines.size()));
                t.take(";");
            }
        } catch (Fault f) {
            fault = f.kind;
            return -2 - f.place;
        }
        Life there = life.copy();
        int k = 0;
        int why = 0;
        while (k < lines.size()) {
            why = live(lines.get(k), there);
            if (why != 0) {
                break;
            }
            k++;
        }
        told = new int[] {why, k, there.day, there.bare.size() - life.bare.size()};
        if (lives == 1) {
            act(life);
            life = there;
        }
        return why == 0 ? -1 : k;
    }

    private String[] bookLine(Text t, int before) throws Fault {
        Token first = t.peek();
        String sort = city.sorts.get(first.text);
        if (!first.is("day") && !first.isName()) {
            throw t.wrong(1);
        }
        if (!first.is("day") && (sort == null || sort.equals("seat"))) {
            throw t.wrong(3);
        }
        if (before == 40) {
            throw t.wrong(4);
        }
        t.take(true);
        if (first.is("day")) {
            return new String[] {"day", "" + t.number(1, 60)};
        }
        String n = "" + city.numbers.get(first.text);
        if (sort.equals("man")) {
            t.take("wears");
            return new String[] {"wears", n, "" + city.name(t, "coat")};
        }
        String verb = t.take(t.peek().text.matches("lies|lent|kept")).text;
        return switch (verb) {
            case "lies" -> new String[] {verb, n, "" + city.name(t, "seat")};
            case "lent" -> new String[] {verb, n, "" + city.name(t, "man")};
            default -> new String[] {verb, n};
        };
    }

    private static int live(String[] line, Life there) {
        int a = Integer.parseInt(line[1]);
        int b = line.length > 2 ? Integer.parseInt(line[2]) : 0;
        int why;
        switch (line[0]) {
            case "lies":
                return there.lay(a, b);
            case "wears":
                why = there.wear(a, b);
                return why == 0 ? 0 : 10 + why;
            case "lent":
                why = there.lend(a, b);
                return why == 0 ? 0 : 20 + why;
            case "kept":
                why = there.keep(a);
                return why == 0 ? 0 : 30 + why;
            default:
                if (there.day + a > 400) {
                    return 41;
                }
                there.go(a);
                return 0;
        }
    }

    int sentence() {
        try {
            speech = new Speech(city, empty());
            return speech.ones;
        } catch (Fault f) {
            fault = f.kind;
            return -1 - f.place;
        }
    }

    int said(int k) {
        if (speech == null) {
            return -1;
        }
        List<Integer> seats = new ArrayList<>();
        for (int s = 0; s < city.worth.size(); s++) {
            if (speech.whole.of(s, life)) {
                seats.add(s);
            }
        }
        return k == -1 ? seats.size() : k >= 0 && k < seats.size() ? seats.get(k) : -1;
    }

    boolean image(int k) {
        if (k != 0 && k != 1) {
            return false;
        }
        images[k] = new Kept(city, life.copy(), speech);
        return true;
    }

    boolean restore(int k) {
        if (k != 0 && k != 1 || images[k] == null) {
            return false;
        }
        city = images[k].city;
        life = images[k].life.copy();
        speech = images[k].speech;
        undo.clear();
        return true;
    }

    int count(int what) {
        return switch (what) {
            case 0 -> city.worth.size();
            case 1 -> city.hardy.size();
            case 2 -> city.coats.size();
            case 3 -> city.told("summer");
            case 4 -> city.told("holds");
            case 5 -> city.told("moths");
            case 6 -> city.told("limit");
            case 7 -> tape.length();
            default -> -1;
        };
    }
}
