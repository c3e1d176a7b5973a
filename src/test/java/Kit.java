import java.nio.charset.StandardCharsets;
import java.util.NoSuchElementException;

/** What the tests share: texts put on the tape, and answers held against those that are due. */
final class Kit {
    static final String COURT =
        "seat throne 50;seat bench 20;seat stool 5;man ann 3;man bob 0;man cid 8;"
        + "coat fur ann 6 9;coat cape ann 2 30;coat rug bob 5 40;coat shawl cid 1 50;"
        + "cold 0 10;cold 4 2;summer 3;holds 4;moths 3;limit 300;";

    private static int asked;
    private static int wrong;

    private Kit() {
    }

    interface Call {
        int answer();
    }

    static void due(String what, long got, long want) {
        asked++;
        if (got != want) {
            wrong++;
            System.out.println(what + " answered " + got + ", due is " + want);
        }
    }

    static void due(String what, boolean got, boolean want) {
        due(what, got ? 1 : 0, want ? 1 : 0);
    }

    static void refused(String what, Call call) {
        asked++;
        try {
            int got = call.answer();
            wrong++;
            System.out.println(what + " answered " + got + ", due is NoSuchElementException");
        } catch (NoSuchElementException e) {
            // as due
        }
    }

    static void finish(String test) {
        System.out.println(test + ": " + (asked - wrong) + " of " + asked + " answers are as due");
        if (wrong != 0) {
            System.exit(1);
        }
    }

    /** Puts a text on the tape in place of what is there; the last twenty bytes are cut to size. */
    static void write(HeldCoats x, String text) {
        write(x, text.getBytes(StandardCharsets.ISO_8859_1));
    }

    static void write(HeldCoats x, byte[] text) {
        x.end(0);
        for (int at = 0; at < text.length; at += 20) {
            x.feed(number(text, at), number(text, at + 4), number(text, at + 8), number(text, at + 12), number(text, at + 16));
        }
        due("end of a text", x.end(text.length), true);
    }

    private static int number(byte[] text, int at) {
        int number = 0;
        for (int k = at; k < at + 4; k++) {
            number = number << 8 | (k < text.length ? text[k] & 255 : 0);
        }
        return number;
    }

    static int capital(HeldCoats x, String text) {
        write(x, text);
        return x.capital();
    }

    static HeldCoats of(String text) {
        HeldCoats x = new HeldCoats();
        due("capital of " + text, capital(x, text) >= 0, true);
        return x;
    }

    static HeldCoats court() {
        return of(COURT);
    }

    static int book(HeldCoats x, String text, int lives) {
        write(x, text);
        return x.book(lives);
    }

    static int sentence(HeldCoats x, String text) {
        write(x, text);
        return x.sentence();
    }

    static int hooks(HeldCoats x, int... bytes) {
        byte[] text = new byte[bytes.length];
        for (int k = 0; k < bytes.length; k++) {
            text[k] = (byte) bytes[k];
        }
        write(x, text);
        return x.hooks();
    }

    /** The SEATS of which the SENTENCE may be said, as bits. */
    static int said(HeldCoats x, String text) {
        due("sentence " + text, sentence(x, text) > 0, true);
        int bits = 0;
        for (int k = 0; k < x.said(HeldCoats.NONE); k++) {
            bits |= 1 << x.said(k);
        }
        return bits;
    }

    /** All that is so, as one text. */
    static String all(HeldCoats x) {
        StringBuilder b = new StringBuilder();
        for (int what = 0; what < 8; what++) {
            b.append(what < 7 ? x.count(what) : 0).append(' ').append(x.now(what)).append(' ').append(x.queue(what)).append(' ');
            for (int m = 0; m < x.count(1); m++) {
                b.append(x.man(m, what)).append(' ');
            }
            for (int c = 0; c < x.count(2) && what < 5; c++) {
                b.append(x.coat(c, what)).append(' ');
            }
            for (int s = 0; s < x.count(0) && what < 4; s++) {
                b.append(x.seat(s, what)).append(' ');
            }
        }
        return b.append(x.said(HeldCoats.NONE)).append(' ').append(x.harm(0, 60)).toString();
    }
}
