import java.nio.charset.StandardCharsets;
import java.util.NoSuchElementException;

/** What the tests share: texts put on the tape, and answers held against those that are due. */
final class Kit {
    static final String COURT =
        "seat throne 50;seat bench 20;seat stool 5;man ann 3;man bob 0;man cid 8;"
        + "coat fur ann 6 9;coat cape ann 2 30;coat rug bob 5 40;coat shawl cid 1 50;"
        + "cold 0 10;cold 4 2;summer 3;holds 4;moths 3;limit 300;";

    /** As much of each sort as there may be: 8 SEATS, 6 MEN, 8 COATS, 8 'cold', each other LINE once. */
    static final String FULL =
        "seat sa 1;seat sb 2;seat sc 3;seat sd 4;seat se 5;seat sf 6;seat sg 7;seat sh 99;"
        + "man ma 0;man mb 4;man mc 8;man md 12;man me 16;man mf 20;"
        + "coat ca ma 0 1;coat cb mb 20 99;coat cc mc 3 50;coat cd md 4 50;coat ce me 5 50;coat cf mf 6 50;coat cg ma 7 50;coat ch mf 8 50;"
        + "cold 0 40;cold 1 30;cold 2 20;cold 3 10;cold 4 0;cold 5 25;cold 6 35;cold 399 1;"
        + "summer 10;holds 9;moths 1;limit 999;";

    private static int asked;
    private static int wrong;

    private Kit() {
    }

    interface Call {
        int answer();
    }

    interface Ask {
        int of(HeldCoats x);
    }

    static void due(String what, long got, long want) {
        asked++;
        if (got != want) {
            wrong++;
            System.out.println(what + " answered " + got + ", due is " + want);
        }
    }

    static void due(String what, boolean got, boolean want) {
        due(what, got ? 1 : 0, want ? 1 : 0);
    }

    static void refused(String what, Call call) {
        asked++;
        try {
            int got = call.answer();
            wrong++;
            System.out.println(what + " answered " + got + ", due is NoSuchElementException");
        } catch (NoSuchElementException e) {
            // as due
        }
    }

    static void finish(String test) {
        System.out.println(test + ": " + (asked - wrong) + " of " + asked + " answers are as due");
        if (wrong != 0) {
            System.exit(1);
        }
    }

    /** Puts a text on the tape in place of what is there; the last twenty bytes are cut to size. */
    static void write(HeldCoats x, String text) {
        write(x, text.getBytes(StandardCharsets.ISO_8859_1));
    }

    static void write(HeldCoats x, byte[] text) {
        x.end(0);
        for (int at = 0; at < text.length; at += 20) {
            x.feed(number(text, at), number(text, at + 4), number(text, at + 8), number(text, at + 12), number(text, at + 16));
        }
        due("end of a text", x.end(text.length), true);
    }

    private static int number(byte[] text, int at) {
        int number = 0;
        for (int k = at; k < at + 4; k++) {
            number = number << 8 | (k < text.length ? text[k] & 255 : 0);
        }
        return number;
    }

    static int capital(HeldCoats x, String text) {
        write(x, text);
        return x.capital();
    }

    static HeldCoats of(String text) {
        HeldCoats x = new HeldCoats();
        due("capital of " + text, capital(x, text) >= 0, true);
        return x;
    }

    static HeldCoats court() {
        return of(COURT);
    }

    static HeldCoats full() {
        return of(FULL);
    }

    /** The same CAPITAL, n DAYS later. */
    static HeldCoats later(String text, int n) {
        HeldCoats x = of(text);
        pass(x, n);
        return x;
    }

    static void pass(HeldCoats x, int n) {
        for (int left = n; left > 0; left -= 60) {
            due("14: days", x.days(Math.min(left, 60)), Math.min(left, 60));
        }
    }

    static void capitalFault(String text, int kind, int place) {
        HeldCoats x = new HeldCoats();
        due("4: capital " + text, capital(x, text), -1 - place);
        due("5: fault of " + text, x.fault(), kind);
    }

    static void bookFault(String text, int kind, int place) {
        HeldCoats x = court();
        due("36: book " + text, book(x, text, 1), -2 - place);
        due("5: fault of " + text, x.fault(), kind);
    }

    static void sentenceFault(String text, int kind, int place) {
        HeldCoats x = court();
        due("38: sentence " + text, sentence(x, text), -1 - place);
        due("5: fault of " + text, x.fault(), kind);
    }

    /** A call that answers so and leaves all that is so, all that was told last, and what can be undone. */
    static void leavesAll(String what, Ask call, int want) {
        leaves(what, call, want, true);
    }

    /** A call that answers so and leaves all but what was told last. */
    static void leavesState(String what, Ask call, int want) {
        leaves(what, call, want, false);
    }

    private static void leaves(String what, Ask call, int want, boolean lastToo) {
        HeldCoats x = busy();
        String before = all(x);
        String last = last(x);
        due(what, call.of(x), want);
        due(what + ": all stays", all(x).equals(before), true);
        if (lastToo) {
            due(what + ": what was told last stays", last(x).equals(last), true);
        }
        due(what + ": no act more, none less", x.undo(), 2);
    }

    /** The court with some of everything: fur lies, shawl is kept, a SENTENCE, three acts, and an answer of each question. */
    static HeldCoats busy() {
        HeldCoats x = court();
        sentence(x, "held or worth = 20");
        x.best(0, 25);
        x.share(0, 1, 2, 3);
        hooks(x, 0, 9, 1);
        x.rounds();
        book(x, "day 2;fur lent ann;", 0);
        x.lay(0, 0);
        x.keep(3);
        x.days(2);
        return x;
    }

    static int book(HeldCoats x, String text, int lives) {
        write(x, text);
        return x.book(lives);
    }

    static int sentence(HeldCoats x, String text) {
        write(x, text);
        return x.sentence();
    }

    static int hooks(HeldCoats x, int... bytes) {
        byte[] text = new byte[bytes.length];
        for (int k = 0; k < bytes.length; k++) {
            text[k] = (byte) bytes[k];
        }
        write(x, text);
        return x.hooks();
    }

    /** The SEATS of which the SENTENCE may be said, as bits. */
    static int said(HeldCoats x, String text) {
        due("sentence " + text, sentence(x, text) > 0, true);
        int bits = 0;
        for (int k = 0; k < x.said(HeldCoats.NONE); k++) {
            bits |= 1 << x.said(k);
        }
        return bits;
    }

    /** What other calls told last, as one text. */
    static String last(HeldCoats x) {
        StringBuilder b = new StringBuilder();
        b.append(x.fault()).append(' ').append(x.laid()).append(' ').append(x.turns()).append(' ').append(x.surely()).append(' ');
        b.append(x.never()).append(' ').append(x.price()).append(' ').append(x.count(7)).append(' ');
        for (int what = 0; what < 4; what++) {
            b.append(x.told(what)).append(' ');
        }
        return b.toString();
    }

    /** All that is so, as one text. */
    static String all(HeldCoats x) {
        StringBuilder b = new StringBuilder();
        for (int what = 0; what < 8; what++) {
            b.append(what < 7 ? x.count(what) : 0).append(' ').append(x.now(what)).append(' ').append(x.queue(what)).append(' ');
            for (int m = 0; m < x.count(1); m++) {
                b.append(x.man(m, what)).append(' ');
            }
            for (int c = 0; c < x.count(2) && what < 5; c++) {
                b.append(x.coat(c, what)).append(' ');
            }
            for (int s = 0; s < x.count(0) && what < 4; s++) {
                b.append(x.seat(s, what)).append(' ');
            }
        }
        return b.append(x.said(HeldCoats.NONE)).append(' ').append(x.harm(0, 60)).toString();
    }
}
