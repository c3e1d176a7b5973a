import java.nio.charset.StandardCharsets;
import java.util.ArrayList;
import java.util.List;
import java.util.NoSuchElementException;
import java.util.Random;

/** Runs of random calls, each answer held against the Oracle's; all promises. */
public final class RandomTest {
    private static final String NAMES = "a b c d e f g h i j k l m n o p q r s t u v w x y z aa bb cc zzzzzzz abcdefg seats";
    private static final String[] PIECES = ("seat man coat cold summer holds moths limit lies lent kept wears day or and not bare held of under "
        + "worth days cloth number ; ; ; < = > ( ) . 0 1 5 20 21 40 99 100 399 400 999 1000 00 a b c d nobody a1 abcdefgh A").split(" ");

    private final Random dice;
    private final HeldCoats x = new HeldCoats();
    private final Oracle o = new Oracle();
    private final StringBuilder log = new StringBuilder();

    private RandomTest(long seed) {
        dice = new Random(seed);
        log.append("run ").append(seed);
    }

    public static void main(String[] args) {
        int runs = args.length > 0 ? Integer.parseInt(args[0]) : 1500;
        int from = args.length > 1 ? Integer.parseInt(args[1]) : 0;
        for (int run = from; run < from + runs; run++) {
            new RandomTest(run).run();
        }
        Kit.finish("RandomTest");
    }

    private void run() {
        put(someCapital());
        same("capital", x.capital(), o.capital());
        for (int k = 0; k < 150; k++) {
            call();
        }
    }

    private void same(String call, int got, int want) {
        log.append('\n').append(call).append(" -> ").append(want);
        if (got != want) {
            Kit.due(log.toString() + "\nthe last one", got, want);
            Kit.finish("RandomTest");
        }
        Kit.due(call, got, want);
    }

    private int n(int bound) {
        return dice.nextInt(bound);
    }

    /** Mostly a number that is there, now and then one that is not. */
    private int some(int count) {
        return n(20) == 0 ? n(12) - 2 : count > 0 ? n(count) : 0;
    }

    private int seat() {
        return some(o.city.worth.size());
    }

    private int man() {
        return some(o.city.hardy.size());
    }

    private int coat() {
        return some(o.city.coats.size());
    }

    private int daysOf(int most) {
        return n(15) == 0 ? most - 1 + n(4) : n(8) - 1 + n(2) * n(most);
    }

    private void put(String text) {
        log.append("\ntape \"").append(text.replace("\n", "\\n")).append('"');
        o.tape = text;
        Kit.write(x, text);
    }

    private void call() {
        switch (n(9)) {
            case 0, 1, 2 -> acts();
            case 3 -> asks();
            case 4, 5 -> counsels();
            case 6 -> texts();
            case 7 -> keeps();
            default -> all();
        }
    }

    private void acts() {
        int a;
        int b;
        switch (n(9)) {
            case 0, 1, 2 -> same("lay(" + (a = coat()) + "," + (b = seat()) + ")", x.lay(a, b), o.act(0, a, b));
            case 3, 4 -> same("wear(" + (a = man()) + "," + (b = coat()) + ")", x.wear(a, b), o.act(1, a, b));
            case 5 -> same("lend(" + (a = coat()) + "," + (b = man()) + ")", x.lend(a, b), o.act(2, a, b));
            case 6 -> same("keep(" + (a = coat()) + ")", x.keep(a), o.act(3, a, 0));
            case 7 -> same("days(" + (a = n(3) == 0 ? daysOf(60) : 1 + n(3)) + ")", x.days(a), o.days(a));
            default -> same("drawn(" + (a = n(4) == 0 ? daysOf(60) : 1 + n(3)) + "," + (b = dice.nextInt()) + ")", x.drawn(a, b), o.drawn(a, b));
        }
    }

    private void asks() {
        int a = seat();
        int m = man();
        int c = coat();
        int what = n(11) - 1;
        same("seat(" + a + "," + what + ")", x.seat(a, what), o.seat(a, what));
        same("man(" + m + "," + what + ")", manOf(m, what), o.man(m, what));
        same("coat(" + c + "," + what + ")", coatOf(c, what), o.coat(c, what));
        same("now(" + what + ")", x.now(what), o.now(what));
        same("count(" + what + ")", x.count(what), o.count(what));
        same("told(" + what + ")", x.told(what), what >= 0 && what < 4 ? o.told[what] : -1);
        same("ahead(" + c + ")", x.ahead(c), o.life.queue.indexOf(c));
        same("queue(" + what + ")", x.queue(what), what >= 0 && what < o.life.queue.size() ? o.life.queue.get(what) : -1);
        same("said(" + what + ")", x.said(what), o.said(what));
    }

    private int manOf(int m, int what) {
        try {
            return x.man(m, what);
        } catch (NoSuchElementException e) {
            return -99;
        }
    }

    private int coatOf(int c, int what) {
        try {
            return x.coat(c, what);
        } catch (NoSuchElementException e) {
            return -99;
        }
    }

    private void counsels() {
        int a = man();
        int b = man();
        int c = coat();
        int d;
        switch (n(13)) {
            case 0 -> {
                if (o.city.worth.size() < 6 || Integer.bitCount(Math.max(0, o.man(a, 3))) < 5) {
                    d = n(10) == 0 ? 998 + n(4) : n(3) == 0 ? n(1000) : n(30) * n(30);
                    same("best(" + a + "," + d + ")", x.best(a, d), o.best(a, d));
                    same("laid()", x.laid(), o.laid);
                }
            }
            case 1 -> same("share(" + a + "," + b + "," + c + "," + (d = daysOf(30)) + ")", x.share(a, b, c, d), o.share(a, b, c, d));
            case 2 -> same("turns()", x.turns(), o.turns);
            case 3 -> {
                if (o.life.queue.size() < 6) {
                    int held = 0;
                    for (int q : o.life.queue) {
                        held |= 1 << q;
                    }
                    d = n(4) == 0 ? n(256) : n(10) == 0 ? dice.nextInt() : n(256) & held;
                    same("bribes(" + d + ")", x.bribes(d), o.bribes(d));
                }
            }
            case 4 -> same("frost(" + a + "," + b + ")", x.frost(a, b), o.frost(a, b, false));
            case 5 -> same("frostAt(" + a + "," + b + ")", x.frostAt(a, b), o.frost(a, b, true));
            case 6 -> same("word(" + (d = daysOf(60)) + ")", x.word(d), o.word(d));
            case 7 -> same("bare()", x.bare(), o.first(-1));
            case 8 -> same("rules(" + a + ")", x.rules(a), o.rules(a));
            case 9 -> same("harm(" + a + "," + (d = daysOf(60)) + ")", x.harm(a, d), o.harm(a, d));
            case 10 -> {
                same("rounds()", x.rounds(), o.rounds());
                same("price()", x.price(), o.price);
            }
            case 11 -> hooks();
            default -> same("odds(" + a + "," + (d = daysOf(30)) + "," + c + ")", x.odds(a, d, c * 77777777), o.odds(a, d, c * 77777777));
        }
    }

    private void hooks() {
        StringBuilder b = new StringBuilder();
        int size = n(8) == 0 ? n(10) : o.city.worth.size();
        for (int k = 0; k < size; k++) {
            b.append((char) (n(20) == 0 ? n(256) : n(2) == 0 ? 9 : Math.max(0, man())));
        }
        put(b.toString());
        same("hooks()", x.hooks(), o.hooks());
        same("surely()", x.surely(), o.surely);
        same("never()", x.never(), o.never);
    }

    private void texts() {
        int lives = n(10) == 0 ? n(5) - 1 : n(2);
        switch (n(6)) {
            case 0, 1 -> {
                put(n(3) == 0 ? broken(someBook()) : someBook());
                same("book(" + lives + ")", x.book(lives), o.book(lives));
            }
            case 2, 3 -> {
                put(n(3) == 0 ? broken(someSentence()) : someSentence());
                same("sentence()", x.sentence(), o.sentence());
            }
            case 4 -> {
                put(broken(someCapital()));
                same("capital()", x.capital(), o.capital());
            }
            default -> {
                if (n(4) == 0) {
                    put(someCapital());
                    same("capital()", x.capital(), o.capital());
                }
            }
        }
        same("fault()", x.fault(), o.fault);
        same("said(-1)", x.said(-1), o.said(-1));
    }

    private void keeps() {
        int k = n(12) == 0 ? n(5) - 2 : n(2);
        switch (n(6)) {
            case 0 -> same("image(" + k + ")", x.image(k) ? 1 : 0, o.image(k) ? 1 : 0);
            case 1 -> same("restore(" + k + ")", x.restore(k) ? 1 : 0, o.restore(k) ? 1 : 0);
            default -> same("undo()", x.undo(), o.undo());
        }
    }

    private void all() {
        for (int what = 0; what < 8; what++) {
            same("count " + what, x.count(what), o.count(what));
            same("now " + what, x.now(what), o.now(what));
            same("queue " + what, x.queue(what), what < o.life.queue.size() ? o.life.queue.get(what) : -1);
            for (int k = 0; k < 8; k++) {
                same("man " + k + " " + what, manOf(k, what), o.man(k, what));
                same("coat " + k + " " + what, coatOf(k, what), o.coat(k, what));
                same("seat " + k + " " + what, x.seat(k, what), o.seat(k, what));
            }
        }
    }

    private String someCapital() {
        List<String> names = new ArrayList<>(List.of(NAMES.split(" ")));
        java.util.Collections.shuffle(names, dice);
        StringBuilder b = new StringBuilder();
        List<String> men = new ArrayList<>();
        boolean crowded = n(6) == 0;
        int seats = n(crowded ? 10 : 7);
        int count = n(12) == 0 ? 0 : 1 + n(crowded ? 7 : 5);
        int coats = n(crowded ? 10 : 7);
        for (int k = 0; k < seats; k++) {
            b.append("seat ").append(names.remove(0)).append(' ').append(1 + n(n(2) == 0 ? 99 : 5)).append(';');
        }
        for (int k = 0; k < count; k++) {
            men.add(names.get(0));
            b.append("man ").append(names.remove(0)).append(' ').append(n(21)).append(blank()).append(';');
        }
        for (int k = 0; k < coats && count > 0; k++) {
            b.append("coat ").append(names.remove(0)).append(' ').append(men.get(n(men.size()))).append(' ');
            b.append(n(n(2) == 0 ? 21 : 6)).append(' ').append(1 + n(n(2) == 0 ? 99 : 12)).append(";").append(blank());
        }
        int colds = n(6);
        for (int k = 0; k < colds; k++) {
            b.append("cold ").append(k == 0 ? 0 : n(4) == 0 ? n(400) : n(30)).append(' ').append(n(41)).append(';');
        }
        String[] once = {"summer " + n(n(3) == 0 ? 41 : 20), "holds " + (1 + n(n(2) == 0 ? 30 : 6)), "moths " + n(10), "limit " + (1 + n(999))};
        for (String line : once) {
            if (n(3) > 0) {
                b.append(line).append(';');
            }
        }
        return b.toString();
    }

    private String blank() {
        return n(5) > 0 ? "" : n(2) == 0 ? "\n" : "  ";
    }

    private String name(String sort) {
        List<String> known = new ArrayList<>();
        for (String s : o.city.sorts.keySet()) {
            if (o.city.sorts.get(s).equals(sort)) {
                known.add(s);
            }
        }
        java.util.Collections.sort(known);
        return known.isEmpty() || n(60) == 0 ? NAMES.split(" ")[n(20)] : known.get(n(known.size()));
    }

    private String someBook() {
        StringBuilder b = new StringBuilder();
        int lines = n(15) == 0 ? 38 + n(5) : n(8);
        for (int k = 0; k < lines; k++) {
            switch (n(5)) {
                case 0 -> b.append(name("coat")).append(" lies ").append(name("seat"));
                case 1 -> b.append(name("coat")).append(" lent ").append(name("man"));
                case 2 -> b.append(name("coat")).append(" kept");
                case 3 -> b.append(name("man")).append(" wears ").append(name("coat"));
                default -> b.append("day ").append(n(20) == 0 ? n(63) : 1 + n(5));
            }
            b.append(blank()).append(';').append(blank());
        }
        return b.toString();
    }

    private String someSentence() {
        return cond(n(15) == 0 ? 9 : 3);
    }

    private String cond(int depth) {
        StringBuilder b = new StringBuilder(one(depth));
        for (int k = n(3); k > 0; k--) {
            b.append(n(2) == 0 ? " or " : " and ").append(one(depth));
        }
        return b.toString();
    }

    private String one(int depth) {
        if (depth > 0 && n(3) == 0 || depth > 4 && n(5) > 0) {
            return n(2) == 0 ? "not " + one(depth - 1) : "(" + (depth > 4 ? one(depth - 1) : cond(depth - 1)) + ")" + blank();
        }
        String sign = "<=>".substring(n(3)).substring(0, 1);
        return switch (n(8)) {
            case 0 -> "bare";
            case 1 -> "held";
            case 2 -> "of " + name("man");
            case 3 -> "under " + name("coat");
            case 4 -> "worth" + blank() + sign + n(n(2) == 0 ? 100 : 6);
            case 5 -> "days " + sign + " " + n(6);
            case 6 -> "cloth" + sign + blank() + n(60);
            default -> "number " + sign + n(9);
        };
    }

    /** A text with some TOKENS or bytes changed, or drawn out beyond its most bytes. */
    private String broken(String text) {
        StringBuilder b = new StringBuilder(text);
        for (int k = 1 + n(3); k > 0; k--) {
            int at = n(b.length() + 1);
            int to = Math.min(b.length(), at + n(6));
            switch (n(6)) {
                case 0 -> b.delete(at, to);
                case 1 -> b.insert(at, " " + PIECES[n(PIECES.length)] + " ");
                case 2 -> b.replace(at, to, PIECES[n(PIECES.length)]);
                case 3 -> b.insert(at, (char) (n(3) == 0 ? n(256) : n(128)));
                case 4 -> b.setLength(at);
                default -> drawOut(b, at);
            }
        }
        if (b.length() > 940) {
            b.setLength(940);
        }
        return new String(b.toString().getBytes(StandardCharsets.ISO_8859_1), StandardCharsets.ISO_8859_1);
    }

    /** Blanks that bring the end, or what stands behind a place, near one of the bounds. */
    private void drawOut(StringBuilder b, int at) {
        int bound = new int[] {200, 400, 900}[n(3)] + n(9) - 4;
        int more = bound - (n(2) == 0 ? b.length() : at);
        if (more > 0 && b.length() + more <= 940) {
            b.insert(at, " ".repeat(more));
        }
    }
}
