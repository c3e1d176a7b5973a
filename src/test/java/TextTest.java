/** Promises 1 to 5: a new object, the tape, the CAPITAL's text and its FAULTS. */
public final class TextTest {
    private static final int NONE = HeldCoats.NONE;

    public static void main(String[] args) {
        newObject();
        tape();
        capitals();
        tokens();
        numbers();
        names();
        tooMany();
        tooLong();
        aFaultLeavesAll();
        Kit.finish("TextTest");
    }

    private static void newObject() {
        HeldCoats x = new HeldCoats();
        for (int what = 0; what < 3; what++) {
            Kit.due("1: count(" + what + ")", x.count(what), 0);
        }
        Kit.due("1: summer", x.count(3), 0);
        Kit.due("1: holds", x.count(4), 9);
        Kit.due("1: moths", x.count(5), 1);
        Kit.due("1: limit", x.count(6), 200);
        Kit.due("1: tape", x.count(7), 0);
        Kit.due("1: day", x.now(0), 0);
        Kit.due("1: fault", x.fault(), 0);
        Kit.due("1: undo", x.undo(), NONE);
        Kit.due("1: said", x.said(NONE), NONE);
    }

    private static void tape() {
        HeldCoats x = new HeldCoats();
        for (int k = 1; k <= 47; k++) {
            Kit.due("2: feed", x.feed(-1, 0, 1, 2, 3), 20 * k);
        }
        Kit.due("2: feed beyond 940", x.feed(1, 1, 1, 1, 1), NONE);
        Kit.due("2: none came", x.count(7), 940);
        Kit.due("3: end above", x.end(941), false);
        Kit.due("3: end below 0", x.end(-1), false);
        Kit.due("3: none went", x.count(7), 940);
        Kit.due("3: end at all", x.end(940), true);
        Kit.due("3: end", x.end(921), true);
        Kit.due("2: feed to 941", x.feed(1, 1, 1, 1, 1), NONE);
        Kit.due("3: end", x.end(920), true);
        Kit.due("2: feed to 940", x.feed(1, 1, 1, 1, 1), 940);
        Kit.due("3: end at 0", x.end(0), true);
        Kit.due("3: empty", x.count(7), 0);
        // the highest byte first, and bytes that were cut come no more
        x.feed(0x6d616e20, 0x6d20353b, 0x2020200a, 0, 0);
        x.end(12);
        x.feed(0x63fffffe, 0, 0, 0, 0);
        x.end(12);
        Kit.due("2: bytes by their order", x.capital(), 1);
        Kit.due("2: hardy", x.man(0, 0), 5);
    }

    private static void capitals() {
        HeldCoats x = new HeldCoats();
        Kit.due("4: court", Kit.capital(x, Kit.COURT), 16);
        Kit.due("5: no fault", x.fault(), 0);
        Kit.due("4: the tape is empty then", x.count(7), 0);
        Kit.due("4: empty text", x.capital(), 0);
        Kit.due("4: empty capital", x.count(0) + x.count(1) + x.count(2), 0);
        Kit.due("4: blanks", Kit.capital(x, " \n \n"), 0);
        Kit.due("4: blanks between", Kit.capital(x, "\nseat\na\n007\n; man m 0 ; coat c m 0 1;"), 3);
        Kit.due("4: 007", x.seat(0, 0), 7);
        Kit.due("4: least ones", Kit.capital(x, "cold 0 0;summer 0;holds 1;moths 0;limit 1;"), 5);
        Kit.due("4: holds", x.count(4), 1);
        Kit.due("4: moths", x.count(5), 0);
        Kit.due("4: limit", x.count(6), 1);
        Kit.due("4: most ones", Kit.capital(x, "cold 399 40;summer 40;holds 30;moths 9;limit 999;"), 5);
        Kit.due("4: summer", x.count(3), 40);
        Kit.due("4: most of others", Kit.capital(x, "man m 20;coat c m 20 99;seat s 99;"), 3);
        Kit.due("4: without", Kit.capital(x, "man m 1;"), 1);
        Kit.due("4: summer without", x.count(3), 0);
        Kit.due("4: holds without", x.count(4), 9);
        Kit.due("4: moths without", x.count(5), 1);
        Kit.due("4: limit without", x.count(6), 200);
        Kit.due("4: seats come no more", x.count(0), 0);
    }

    private static void tokens() {
        fault("seat", 1, 4);
        fault("seat ", 1, 5);
        fault("seat a 5", 1, 8);
        fault("seat a 5 \n ", 1, 11);
        fault("seat a 5;;", 1, 9);
        fault(";", 1, 0);
        fault("  5", 1, 2);
        fault("town a 5;", 1, 0);
        fault("day 5;", 1, 0);
        fault("or", 1, 0);
        fault("Seat a 5;", 1, 0);
        fault("seat\ta 5;", 1, 4);
        fault("seat a 5.", 1, 8);
        fault("seat a. 5;", 1, 6);
        fault("seat a1 5;", 1, 5);
        fault("seat 1a 5;", 1, 5);
        fault("seat a5;", 1, 5);
        fault("seata 5;", 1, 0);
        fault("seat abcdefgh 5;", 1, 5);
        fault("seat a 0005;", 1, 7);
        fault("seat a b;", 1, 7);
        fault("seat 5 5;", 1, 5);
        fault("seat a (;", 1, 7);
        fault("seat a 5 5;", 1, 9);
        fault("seat a 5 man m 1;", 1, 9);
        fault("seat \u00e4 5;", 1, 5);
        fault("seat \0 5;", 1, 5);
        fault("cold a 5;", 1, 5);
        fault("cold 5;", 1, 6);
        fault("coat c 5 5 5;", 1, 7);
        fault("summer;", 1, 6);
        fault("summer x;", 1, 7);
        for (String word : "seat man coat cold summer holds moths limit lies lent kept wears day or and not bare held of under worth days cloth number".split(" ")) {
            fault("seat " + word + " 5;", 1, 5);
            fault("man m 1;coat c " + word + " 1 1;", 1, 15);
        }
        Kit.due("4: a name of seven", Kit.capital(new HeldCoats(), "seat abcdefg 5;seat a 5;seat zzzzzzz 5;"), 3);
    }

    private static void numbers() {
        fault("seat a 0;", 2, 7);
        fault("seat a 000;", 2, 7);
        fault("seat a 100;", 2, 7);
        fault("man a 21;", 2, 6);
        fault("man m 1;coat c m 21 1;", 2, 17);
        fault("man m 1;coat c m 20 0;", 2, 20);
        fault("man m 1;coat c m 20 100;", 2, 20);
        fault("cold 400 1;", 2, 5);
        fault("cold 399 41;", 2, 9);
        fault("summer 41;", 2, 7);
        fault("holds 0;", 2, 6);
        fault("holds 31;", 2, 6);
        fault("moths 10;", 2, 6);
        fault("limit 0;", 2, 6);
        fault("limit 1000;", 1, 6);
        fault("seat a 100", 2, 7);
    }

    private static void names() {
        fault("seat a 1;seat a 1;", 3, 14);
        fault("seat a 1;man a 1;", 3, 13);
        fault("man m 1;coat m m 1 1;", 3, 13);
        fault("coat c m 1 1;man m 1;", 3, 7);
        fault("man m 1;coat c c 1 1;", 3, 15);
        fault("seat s 1;coat c s 1 1;", 3, 16);
        fault("cold 7 1;cold 007 2;", 3, 14);
        fault("summer 1;summer", 3, 9);
        fault("holds 1;moths 1;holds 2;", 3, 16);
        fault("moths 1;moths x", 3, 8);
        fault("limit 1;\nlimit 2;", 3, 9);
        Kit.due("4: names that begin alike", Kit.capital(new HeldCoats(), "seat a 1;seat aa 1;seat ab 1;seat seats 1;"), 4);
    }

    private static void tooMany() {
        String eight = "";
        String coats = "man m 1;";
        String colds = "";
        for (int k = 0; k < 8; k++) {
            eight += "seat s" + (char) ('a' + k) + " 1;";
            coats += "coat c" + (char) ('a' + k) + " m 1 1;";
            colds += "cold " + (10 + k) + " 1;";
        }
        Kit.due("4: eight seats, coats, colds", Kit.capital(new HeldCoats(), eight + coats + colds), 25);
        fault(eight + "seat", 4, eight.length());
        fault(eight + "seat sa 0;", 4, eight.length());
        fault(coats + " coat ca m 1 1;", 4, coats.length() + 1);
        fault(colds + "cold 10 1;", 4, colds.length());
        String six = "man a 1;man b 1;man c 1;man d 1;man e 1;man f 1;";
        Kit.due("4: six men", Kit.capital(new HeldCoats(), six), 6);
        fault(six + "man g 1;", 4, six.length());
    }

    private static void tooLong() {
        Kit.due("4: 900 bytes", Kit.capital(new HeldCoats(), padded("seat a 1;", 900)), 1);
        fault(padded("seat a 1;", 901), 1, 900);
        fault(padded("seat a 1;", 940), 1, 900);
        // a TOKEN that begins ahead of the most is read whole, one that begins there is not
        fault(before("seat a 1;", "man m 21;", 893), 2, 899);
        fault(before("seat a 1;", "man m 21;", 894), 1, 900);
        fault(before("seat a 1;", "man m 1", 894), 1, 900);
        fault(before("seat a 1;", "man m 20;", 892), 1, 900);
        fault(before("seat a 1;", "manymanymany", 899), 1, 899);
        fault(before("seat a 1;", "x", 930), 1, 900);
        fault(before("seat a ", "100", 898), 2, 898);
    }

    private static void aFaultLeavesAll() {
        HeldCoats x = Kit.court();
        x.lay(0, 0);
        Kit.sentence(x, "held");
        Kit.due("5: none", x.fault(), 0);
        Kit.due("4: fault", Kit.capital(x, "seat z 5;seat q 0;"), -1 - 16);
        Kit.due("5: fault", x.fault(), 2);
        Kit.due("4: the tape is empty then", x.count(7), 0);
        Kit.due("4: it stays", x.count(0), 3);
        Kit.due("4: it stays", x.seat(0, 1), 0);
        Kit.due("4: the sentence stays", x.said(NONE), 1);
        Kit.due("4: the names stay", Kit.sentence(x, "of bob"), 1);
        Kit.due("5: mended", x.fault(), 0);
        Kit.capital(x, "x");
        Kit.due("4: undo stays", x.undo(), 0);
        Kit.due("5: another book leaves it", x.book(2), -1000);
        Kit.due("5: another book leaves it", x.fault(), 1);
        Kit.due("5: book mends it", Kit.book(x, "", 0), NONE);
        Kit.due("5: book mends it", x.fault(), 0);
        x.lay(0, 0);
        Kit.due("4: anew", Kit.capital(x, Kit.COURT), 16);
        Kit.due("4: no sentence", x.said(NONE), NONE);
        Kit.due("4: all worn", x.man(0, 3), 3);
        Kit.due("4: nothing done yet", x.undo(), NONE);
    }

    private static String padded(String text, int size) {
        return text + " ".repeat(size - text.length());
    }

    private static String before(String text, String last, int place) {
        return padded(text, place) + last;
    }

    private static void fault(String text, int kind, int place) {
        HeldCoats x = new HeldCoats();
        Kit.due("4: capital " + text, Kit.capital(x, text), -1 - place);
        Kit.due("5: fault of " + text, x.fault(), kind);
    }
}
