/** The bounds of the Terms, and of promises 1 to 5: at each bound and one beyond it, and which FAULT comes first. */
public final class EdgeTextTest {
    private static final int NONE = HeldCoats.NONE;
    private static final String[] RESERVED = ("seat man coat cold summer holds moths limit lies lent kept wears day "
        + "or and not bare held of under worth days cloth number").split(" ");

    public static void main(String[] args) {
        tapeBounds();
        everyByteBetween();
        everyByteFirst();
        wordsByLength();
        numbersByLength();
        withoutBlanks();
        capitalNumbers();
        withoutThem();
        toldOnce();
        namesOfTheLanguage();
        asManyAsMayBe();
        capitalBytes();
        bookBytes();
        bookLines();
        bookNumbers();
        bookNames();
        sentenceBytes();
        sentenceOnes();
        sentenceWithin();
        sentenceNames();
        atTheEnd();
        firstAlongTheText();
        ofOneTokenTheLeast();
        faultOfTheLatest();
        Kit.finish("EdgeTextTest");
    }

    private static void tapeBounds() {
        HeldCoats x = new HeldCoats();
        Kit.due("3: no bytes, the first none", x.end(0), true);
        Kit.due("3: no bytes, the first one", x.end(1), false);
        Kit.due("3: below 0", x.end(-1), false);
        Kit.due("3: far below 0", x.end(Integer.MIN_VALUE), false);
        Kit.due("3: far above", x.end(Integer.MAX_VALUE), false);
        for (int k = 1; k <= 46; k++) {
            Kit.due("2: how many it has", x.feed(k, k, k, k, k), 20 * k);
        }
        Kit.due("3: 920 it has, 921 not", x.end(921), false);
        Kit.due("3: so it stays", x.count(7), 920);
        Kit.due("2: 940 may be", x.feed(0, 0, 0, 0, 0), 940);
        Kit.due("2: 960 not", x.feed(0, 0, 0, 0, 0), NONE);
        Kit.due("2: none come", x.count(7), 940);
        Kit.due("3: one less", x.end(939), true);
        Kit.due("2: 959 not", x.feed(0, 0, 0, 0, 0), NONE);
        Kit.due("2: none come", x.count(7), 939);
        Kit.due("3: 921", x.end(921), true);
        Kit.due("2: 941 not", x.feed(0, 0, 0, 0, 0), NONE);
        Kit.due("3: 920", x.end(920), true);
        Kit.due("2: 940 again", x.feed(0, 0, 0, 0, 0), 940);
        Kit.due("3: all of them", x.end(940), true);
        Kit.due("3: one more", x.end(941), false);
        HeldCoats y = Kit.of("seat a 1;seat b 1;seat c 1;seat d 1;man m 0;man o 0;coat k m 0 1;coat l o 0 1;");
        y.feed(0x00090109, 0x01020304, 0, 0, 0);
        y.end(4);
        Kit.due("2: of each number the highest first", y.hooks(), 1);
        Kit.due("2: bytes in their order", y.surely(), 3);
        y.feed(0x09090909, 0, 0, 0, 0);
        y.end(2);
        y.feed(0x09000000, 0, 0, 0, 0);
        y.end(4);
        Kit.due("2: behind what is left of the tape", y.hooks(), 1);
        Kit.due("2: the fourth byte is the second of the latter", y.surely(), 1);
    }

    /** Blanks are 32 and 10 alone; what is between TOKENS and is none is a FAULT at it. */
    private static void everyByteBetween() {
        for (int b = 0; b < 256; b++) {
            String text = "seat a 5" + (char) b + ";";
            if (b == ' ' || b == '\n' || b >= '0' && b <= '9') {
                Kit.due("4: byte " + b + " in between", Kit.capital(new HeldCoats(), text), 1);
            } else if (b >= 'a' && b <= 'z') {
                Kit.capitalFault(text, 1, 7);
            } else {
                Kit.capitalFault(text, 1, b == ';' ? 9 : 8);
            }
        }
    }

    private static void everyByteFirst() {
        for (int b = 0; b < 256; b++) {
            if (b == ' ' || b == '\n') {
                Kit.due("4: byte " + b + " alone", Kit.capital(new HeldCoats(), "" + (char) b), 0);
                Kit.sentenceFault("" + (char) b, 1, 1);
            } else {
                Kit.capitalFault((char) b + " ", 1, 0);
                Kit.bookFault((char) b + " ", b >= 'a' && b <= 'z' ? 3 : 1, 0);
                Kit.sentenceFault((char) b + " ", 1, b == '(' ? 2 : 0);
            }
        }
    }

    private static void wordsByLength() {
        HeldCoats x = new HeldCoats();
        Kit.due("4: one letter, seven letters", Kit.capital(x, "seat a 1;seat z 1;seat aaaaaaa 1;seat zzzzzzz 1;"), 4);
        Kit.capitalFault("seat aaaaaaaa 1;", 1, 5);
        Kit.capitalFault("seat zzzzzzzzzzzzzzzzzzzzzzzzzzz 1;", 1, 5);
        Kit.capitalFault("summerr 1;", 1, 0);
        Kit.capitalFault("summ 1;", 1, 0);
        // letters and digits together are one, and none
        Kit.capitalFault("seat a1 1;", 1, 5);
        Kit.capitalFault("seat 1a 1;", 1, 5);
        Kit.capitalFault("seat aaaaaaa1 1;", 1, 5);
        Kit.capitalFault("seat1 a 1;", 1, 0);
        Kit.capitalFault("seat a 1a;", 1, 7);
        Kit.capitalFault("seat a 11a;", 1, 7);
        Kit.sentenceFault("not bare1", 1, 4);
        Kit.bookFault("fur1 kept;", 1, 0);
        // words of seven letters, where one is due, that are told, and of eight, whose first seven are
        HeldCoats y = Kit.of("seat throned 1;man anthony 0;coat leather anthony 0 1;");
        Kit.due("36: seven letters", Kit.book(y, "leather lies throned;anthony wears leather;", 0), NONE);
        Kit.due("36: eight letters", Kit.book(y, "leather lies throneds;", 0), -2 - 13);
        Kit.due("5: no TOKEN", y.fault(), 1);
        Kit.due("36: six of the seven", Kit.book(y, "leather lies throne;", 0), -2 - 13);
        Kit.due("5: not told", y.fault(), 3);
    }

    private static void numbersByLength() {
        HeldCoats x = new HeldCoats();
        Kit.due("4: one, two, three digits", Kit.capital(x, "seat a 1;seat b 01;seat c 001;limit 999;"), 4);
        Kit.due("4: worth", x.seat(0, 0) + x.seat(1, 0) + x.seat(2, 0), 3);
        Kit.capitalFault("seat a 0001;", 1, 7);
        Kit.capitalFault("seat a 9999999999999999999999;", 1, 7);
        Kit.capitalFault("limit 1000;", 1, 6);
        Kit.capitalFault("limit 0999;", 1, 6);
        Kit.capitalFault("cold 0001 1;", 1, 5);
        Kit.sentenceFault("worth < 0001", 1, 8);
        Kit.bookFault("day 0001;", 1, 4);
    }

    private static void withoutBlanks() {
        HeldCoats x = new HeldCoats();
        Kit.due("4: none needed at ;", Kit.capital(x, "seat s 9;man m 0;coat c m 1 2;cold 0 5;limit 9;"), 5);
        Kit.due("4: many", Kit.capital(x, "\n \nseat\n\n s  9 \n; man\nm\n0\n;\n"), 2);
        Kit.due("38: none needed at signs", Kit.sentence(x, "(worth>0)and(number=0)or not(cloth<9)"), 7);
        Kit.due("38: blanks at signs", Kit.sentence(x, " ( worth > 0 )\nand\n( number\n=\n0 ) or not ( cloth < 9 ) "), 7);
        Kit.sentenceFault("worth > = 5", 1, 8);
        Kit.sentenceFault("worth >= 5", 1, 7);
        Kit.sentenceFault("worth == 5", 1, 7);
        Kit.sentenceFault("worth ! 5", 1, 6);
        Kit.sentenceFault("notbare", 1, 0);
    }

    /** Each NUMBER of a CAPITAL at both bounds, and one beyond each. */
    private static void capitalNumbers() {
        number("seat s ", 1, 99, ";", x -> x.seat(0, 0));
        number("man m ", 0, 20, ";", x -> x.man(0, 0));
        number("man m 0;coat c m ", 0, 20, " 9;", x -> x.coat(0, 1));
        number("man m 0;coat c m 9 ", 1, 99, ";", x -> x.coat(0, 2));
        number("cold 0 ", 0, 40, ";", x -> x.now(1));
        number("summer ", 0, 40, ";", x -> x.count(3));
        number("holds ", 1, 30, ";", x -> x.count(4));
        number("moths ", 0, 9, ";", x -> x.count(5));
        number("limit ", 1, 999, ";", x -> x.count(6));
        for (int from : new int[] {0, 1, 398, 399}) {
            HeldCoats x = Kit.of("cold " + from + " 7;");
            Kit.pass(x, Math.max(0, from - 1));
            Kit.due("9: the DAY ahead of FROM", x.now(1), from == 0 ? 7 : 0);
            Kit.pass(x, from - x.now(0));
            Kit.due("9: FROM itself", x.now(1), 7);
        }
        Kit.capitalFault("cold 400 7;", 2, 5);
        Kit.capitalFault("cold 999 7;", 2, 5);
        Kit.capitalFault("cold x 7;", 1, 5);
        Kit.capitalFault("cold ;", 1, 5);
    }

    private static void number(String before, int least, int most, String behind, Kit.Ask value) {
        for (int n : new int[] {least, least + 1, most - 1, most}) {
            HeldCoats x = Kit.of(before + n + behind);
            Kit.due("4: value of " + before + n, value.of(x), n);
            Kit.due("5: no fault of " + before + n, x.fault(), 0);
        }
        if (least > 0) {
            Kit.capitalFault(before + (least - 1) + behind, 2, before.length());
        }
        Kit.capitalFault(before + (most + 1) + behind, most == 999 ? 1 : 2, before.length());
        Kit.capitalFault(before + "999" + (most == 999 ? "9" : "") + behind, most == 999 ? 1 : 2, before.length());
        Kit.capitalFault(before + "x" + behind, 1, before.length());
        Kit.capitalFault(before + "seat" + behind, 1, before.length());
        Kit.capitalFault(before + ";" + behind, 1, before.length());
        Kit.capitalFault(before, 1, before.length());
    }

    private static void withoutThem() {
        HeldCoats x = Kit.of("summer 7;holds 7;moths 7;limit 7;");
        Kit.capital(x, "seat s 1;");
        Kit.due("4: summer 0 without", x.count(3), 0);
        Kit.due("4: holds 9 without", x.count(4), 9);
        Kit.due("4: moths 1 without", x.count(5), 1);
        Kit.due("4: limit 200 without", x.count(6), 200);
        Kit.due("4: cold 0 without", x.now(1), 0);
    }

    private static void toldOnce() {
        for (String line : new String[] {"summer 3;", "holds 3;", "moths 3;", "limit 3;"}) {
            Kit.due("4: once", Kit.capital(new HeldCoats(), line), 1);
            String word = line.substring(0, line.indexOf(' '));
            Kit.capitalFault(line + line, 3, line.length());
            Kit.capitalFault(line + "seat s 1; " + word + " 99999;", 3, line.length() + 10);
            Kit.capitalFault(line + word, 3, line.length());
        }
        Kit.due("4: each other one besides", Kit.capital(new HeldCoats(), "limit 3;moths 3;holds 3;summer 3;"), 4);
        // once more in another CAPITAL is no FAULT
        HeldCoats x = Kit.of("limit 3;seat s 1;cold 5 5;");
        Kit.due("4: told anew", Kit.capital(x, "limit 3;seat s 1;cold 5 5;"), 3);
        Kit.due("4: fault", Kit.capital(x, "limit 3;seat s 1;cold 5 5;x"), -27);
        Kit.due("4: told anew after a fault", Kit.capital(x, "limit 3;seat s 1;cold 5 5;"), 3);
        // each FROM once, by its value; of like N as many as one wants
        Kit.due("4: other ones", Kit.capital(x, "cold 0 5;cold 1 5;cold 399 5;cold 398 5;"), 4);
        Kit.capitalFault("cold 0 5;cold 00 6;", 3, 14);
        Kit.capitalFault("cold 399 5;cold 7 5; cold 399 5;", 3, 26);
        Kit.capitalFault("cold 7 5;cold 7", 3, 14);
        // a NAME once among all sorts
        String[] lines = {"seat n 1;", "man n 1;", "coat n o 1 1;"};
        for (String one : lines) {
            for (String other : lines) {
                String text = "man o 1;" + one + other;
                Kit.capitalFault(text, 3, 8 + one.length() + other.indexOf('n', other.indexOf(' ')));
            }
        }
    }

    private static void namesOfTheLanguage() {
        for (String word : RESERVED) {
            Kit.capitalFault("seat " + word + " 1;", 1, 5);
            Kit.capitalFault("man " + word + " 1;", 1, 4);
            Kit.capitalFault("man m 1;coat " + word + " m 1 1;", 1, 13);
            Kit.capitalFault("man m 1;coat c " + word + " 1 1;", 1, 15);
            Kit.bookFault("fur lies " + word + ";", 1, 9);
            Kit.bookFault("fur lent " + word + ";", 1, 9);
            Kit.bookFault("ann wears " + word + ";", 1, 10);
            Kit.bookFault(word, 1, word.equals("day") ? 3 : 0);
            Kit.sentenceFault("of " + word, 1, 3);
            Kit.sentenceFault("under " + word, 1, 6);
            String like = word.length() < 7 ? word + "s" : word;
            boolean other = !String.join(" ", RESERVED).concat(" ").contains(like + " ");
            Kit.due("4: a letter more is a NAME: " + like, !other || Kit.capital(new HeldCoats(), "seat " + like + " 1;") == 1, true);
        }
    }

    private static void asManyAsMayBe() {
        HeldCoats x = new HeldCoats();
        Kit.due("4: as many as may be of each", Kit.capital(x, Kit.FULL), 34);
        Kit.due("4: eight seats", x.count(0), 8);
        Kit.due("4: six men", x.count(1), 6);
        Kit.due("4: eight coats", x.count(2), 8);
        int at = Kit.FULL.length();
        for (String line : new String[] {"seat", "man", "coat", "cold"}) {
            Kit.capitalFault(Kit.FULL + line, 4, at);
            Kit.capitalFault(Kit.FULL + " \n" + line + " sa", 4, at + 2);
            Kit.capitalFault(Kit.FULL + line + " 0 0;", 4, at);
        }
        Kit.capitalFault(Kit.FULL + "seat si 1;", 4, at);
        Kit.capitalFault(Kit.FULL + "man mg 1;", 4, at);
        Kit.capitalFault(Kit.FULL + "coat ci ma 1 1;", 4, at);
        Kit.capitalFault(Kit.FULL + "cold 8 1;", 4, at);
        // numbered from 0 each, in the order in which they are told
        for (int s = 0; s < 8; s++) {
            Kit.due("6: worth of seat " + s, x.seat(s, 0), s == 7 ? 99 : s + 1);
        }
        for (int m = 0; m < 6; m++) {
            Kit.due("7: hardy of man " + m, x.man(m, 0), 4 * m);
        }
        int[] owners = {0, 1, 2, 3, 4, 5, 0, 5};
        for (int c = 0; c < 8; c++) {
            Kit.due("8: whose is coat " + c, x.coat(c, 0), owners[c]);
            Kit.due("36: coat " + c + " by its name", Kit.book(x, "c" + (char) ('a' + c) + " lies s" + (char) ('h' - c) + ";", 1), NONE);
            Kit.due("36: lies", x.seat(7 - c, 1), c);
        }
    }

    private static void capitalBytes() {
        Kit.due("4: 900 bytes", Kit.capital(new HeldCoats(), pad("seat s 1;", 900)), 1);
        Kit.due("4: 900 bytes, the last a TOKEN", Kit.capital(new HeldCoats(), pad("seat s 1", 899) + ";"), 1);
        Kit.due("4: 900 blanks", Kit.capital(new HeldCoats(), pad("", 900)), 0);
        Kit.capitalFault(pad("", 901), 1, 900);
        Kit.capitalFault(pad("seat s 1;", 901), 1, 900);
        Kit.capitalFault(pad("seat s 1;", 940), 1, 900);
        Kit.capitalFault(pad("seat s 1", 900) + ";", 1, 900);
        Kit.capitalFault(pad("seat s 1", 899) + "; ", 1, 900);
        Kit.capitalFault(pad("seat s 1", 899) + ";;", 1, 900);
        // a TOKEN that begins ahead of it is read whole, with its own FAULT
        Kit.capitalFault(pad("seat s", 899) + "10;", 1, 900);
        Kit.capitalFault(pad("seat s", 899) + "100;", 2, 899);
        Kit.capitalFault(pad("seat s", 900) + "100;", 1, 900);
        Kit.capitalFault(pad("seat s", 899) + "1000;", 1, 899);
        Kit.capitalFault(pad("seat s 1;seat", 899) + "ss 1;", 1, 900);
        Kit.capitalFault(pad("seat ss 1;seat", 899) + "ss 1;", 3, 899);
        Kit.capitalFault(pad("seat ss 1;seat", 900) + "ss 1;", 1, 900);
        Kit.capitalFault(pad("summer 1;", 899) + "summer 1;", 3, 899);
        Kit.capitalFault(pad("summer 1;", 900) + "summer 1;", 1, 900);
        Kit.capitalFault(pad(Kit.FULL, 899) + "seat", 4, 899);
        Kit.capitalFault(pad(Kit.FULL, 900) + "seat", 1, 900);
        // a FAULT ahead of it comes first; the text's end behind it is none
        Kit.capitalFault(pad("seat s 0;", 940), 2, 7);
        Kit.capitalFault(pad("seat s", 940), 1, 900);
        Kit.capitalFault(pad("seat s", 900), 1, 900);
        Kit.capitalFault(pad("seat s", 899), 1, 899);
    }

    private static void bookBytes() {
        Kit.due("36: 400 bytes", Kit.book(Kit.court(), pad("day 1;", 400), 0), NONE);
        Kit.due("36: 400 bytes, the last a TOKEN", Kit.book(Kit.court(), pad("day 1", 399) + ";", 0), NONE);
        Kit.bookFault(pad("", 401), 1, 400);
        Kit.bookFault(pad("day 1;", 401), 1, 400);
        Kit.bookFault(pad("day 1;", 940), 1, 400);
        Kit.bookFault(pad("day 1", 400) + ";", 1, 400);
        Kit.bookFault(pad("day", 399) + "60;", 1, 400);
        Kit.bookFault(pad("day", 399) + "61;", 2, 399);
        Kit.bookFault(pad("day", 400) + "61;", 1, 400);
        Kit.bookFault(pad("fur lies", 399) + "ann;", 3, 399);
        Kit.bookFault(pad("fur lies", 400) + "ann;", 1, 400);
        Kit.bookFault(pad("day 1;".repeat(40), 399) + "day 1;", 4, 399);
        Kit.bookFault(pad("day 1;".repeat(40), 400) + "day 1;", 1, 400);
        Kit.bookFault(pad("day 0;", 500), 2, 4);
    }

    private static void bookLines() {
        String forty = "day 1;".repeat(40);
        HeldCoats x = Kit.court();
        Kit.due("36: forty LINES", Kit.book(x, forty, 1), NONE);
        Kit.due("37: forty LINES", x.told(1), 40);
        Kit.due("9: forty DAYS", x.now(0), 40);
        for (String line : new String[] {"day 1;", "day", "day 0;", "fur kept;", "fur", "ann wears fur;", "ann sofa;"}) {
            Kit.bookFault(forty + line, 4, 240);
            Kit.bookFault(forty + "\n " + line, 4, 242);
        }
        Kit.due("36: a 41st alone is one too many", Kit.book(x, "day 1;".repeat(39) + "fur kept;", 0), NONE);
        Kit.due("36: none at all", Kit.book(x, "", 0), NONE);
        Kit.due("36: blanks", Kit.book(x, " \n ", 0), NONE);
        Kit.due("37: no LINES", x.told(1), 0);
    }

    private static void bookNumbers() {
        for (int n : new int[] {1, 2, 59, 60}) {
            HeldCoats x = Kit.court();
            Kit.due("36: day " + n, Kit.book(x, "day " + n + ";", 1), NONE);
            Kit.due("9: day " + n, x.now(0), n);
        }
        Kit.bookFault("day 0;", 2, 4);
        Kit.bookFault("day 000;", 2, 4);
        Kit.bookFault("day 61;", 2, 4);
        Kit.bookFault("day 999;", 2, 4);
        Kit.bookFault("day 61", 2, 4);
        Kit.bookFault("day;", 1, 3);
        Kit.bookFault("day ann;", 1, 4);
    }

    private static void bookNames() {
        Kit.bookFault("throne lies throne;", 3, 0);
        Kit.bookFault("sofa lies throne;", 3, 0);
        Kit.bookFault("fur lies fur;", 3, 9);
        Kit.bookFault("fur lies ann;", 3, 9);
        Kit.bookFault("fur lies sofa;", 3, 9);
        Kit.bookFault("fur lent fur;", 3, 9);
        Kit.bookFault("fur lent throne;", 3, 9);
        Kit.bookFault("fur lent sofa;", 3, 9);
        Kit.bookFault("ann wears ann;", 3, 10);
        Kit.bookFault("ann wears throne;", 3, 10);
        Kit.bookFault("ann wears sofa;", 3, 10);
        // a NAME where none can come, or a WORD that does not follow that sort
        Kit.bookFault("ann;", 1, 3);
        Kit.bookFault("fur;", 1, 3);
        Kit.bookFault("ann fur;", 1, 4);
        Kit.bookFault("fur ann;", 1, 4);
        Kit.bookFault("fur sofa;", 1, 4);
        Kit.bookFault("fur wears ann;", 1, 4);
        Kit.bookFault("ann lies throne;", 1, 4);
        Kit.bookFault("ann lent bob;", 1, 4);
        Kit.bookFault("ann kept;", 1, 4);
        Kit.bookFault("day lies throne;", 1, 4);
        Kit.bookFault("fur kept fur;", 1, 9);
        Kit.bookFault("fur lies throne bench;", 1, 16);
        // NAMES are those of the CAPITAL now
        HeldCoats x = Kit.court();
        Kit.capital(x, "seat fur 1;man rug 1;coat ann rug 1 1;");
        Kit.due("36: other sorts now", Kit.book(x, "ann lies fur;rug wears ann;ann kept;", 0), NONE);
        Kit.due("36: a seat now", Kit.book(x, "fur kept;", 0), -2);
        Kit.due("36: gone now", Kit.book(x, "ann lies throne;", 0), -2 - 9);
    }

    private static void sentenceBytes() {
        Kit.due("38: 200 bytes", Kit.sentence(Kit.court(), pad("bare", 200)), 1);
        Kit.due("38: 200 bytes, the last a TOKEN", Kit.sentence(Kit.court(), pad("(bare", 199) + ")"), 2);
        Kit.sentenceFault(pad("bare", 201), 1, 200);
        Kit.sentenceFault(pad("bare", 940), 1, 200);
        Kit.sentenceFault(pad("(bare", 200) + ")", 1, 200);
        Kit.sentenceFault(pad("not", 199) + "bare", 1, 200);
        Kit.sentenceFault(pad("of", 199) + "fur", 3, 199);
        Kit.sentenceFault(pad("of", 200) + "fur", 1, 200);
        Kit.sentenceFault(pad("((((((((", 199) + "bare", 4, 199);
        Kit.sentenceFault(pad("((((((((", 200) + "bare", 1, 200);
        Kit.sentenceFault(pad("", 200), 1, 200);
        Kit.sentenceFault(pad("", 201), 1, 200);
        Kit.sentenceFault(pad("and", 500), 1, 0);
    }

    private static void sentenceOnes() {
        String twenty = "bare" + " or bare".repeat(19);
        Kit.due("38: twenty ONES", Kit.sentence(Kit.court(), twenty), 20);
        Kit.due("38: twenty with not", Kit.sentence(Kit.court(), "not bare" + " or not bare".repeat(9)), 20);
        Kit.due("38: twenty with brackets", Kit.sentence(Kit.court(), "(bare)" + "and(bare)".repeat(9)), 20);
        String nineteen = "bare" + " or bare".repeat(18);
        Kit.sentenceFault(twenty + " or bare", 4, twenty.length() + 4);
        Kit.sentenceFault(twenty + " and(bare)", 4, twenty.length() + 4);
        Kit.sentenceFault(twenty + " or of nobody", 4, twenty.length() + 4);
        Kit.sentenceFault(twenty + " or worth", 4, twenty.length() + 4);
        // not and a bracket are the twentieth, what is within is the 21st
        Kit.sentenceFault(nineteen + " or not bare", 4, nineteen.length() + 8);
        Kit.sentenceFault(nineteen + " or (bare)", 4, nineteen.length() + 5);
        Kit.sentenceFault(nineteen + " or (", 1, nineteen.length() + 5);
        Kit.due("38: the twentieth is a saying", Kit.sentence(Kit.court(), nineteen + " or of ann"), 20);
    }

    private static void sentenceWithin() {
        Kit.due("38: eight, by brackets", Kit.sentence(Kit.court(), "(".repeat(7) + "bare" + ")".repeat(7)), 8);
        Kit.due("38: eight, by not", Kit.sentence(Kit.court(), "not ".repeat(7) + "bare"), 8);
        Kit.due("38: eight twice", Kit.sentence(Kit.court(), "not(not(not(not bare)))or not(not(not(not bare)))"), 16);
        Kit.sentenceFault("(".repeat(8) + "bare" + ")".repeat(8), 4, 8);
        Kit.sentenceFault("not ".repeat(8) + "bare", 4, 32);
        Kit.sentenceFault("(".repeat(9) + "bare" + ")".repeat(9), 4, 8);
        Kit.sentenceFault("not(".repeat(4) + "of sofa))))", 4, 16);
        Kit.sentenceFault("bare or " + "not(".repeat(4) + "bare))))", 4, 24);
        Kit.sentenceFault("not(".repeat(3) + "not bare and bare or not not bare", 4, 41);
        // one after the other is not within
        Kit.due("38: side by side", Kit.sentence(Kit.court(), "(".repeat(7) + "bare and held or held" + ")".repeat(7) + "or(bare)"), 12);
    }

    private static void sentenceNames() {
        for (String name : new String[] {"throne", "fur", "nobody", "an", "anna"}) {
            Kit.sentenceFault("of " + name, 3, 3);
        }
        for (String name : new String[] {"throne", "ann", "nobody", "fu", "furs"}) {
            Kit.sentenceFault("held and under " + name, 3, 15);
        }
        Kit.sentenceFault("of 1", 1, 3);
        Kit.sentenceFault("of (ann)", 1, 3);
        Kit.sentenceFault("ann", 1, 0);
        Kit.sentenceFault("bare ann", 1, 5);
        HeldCoats x = new HeldCoats();
        Kit.due("38: no NAMES in an empty CAPITAL", Kit.sentence(x, "of ann"), -1 - 3);
        Kit.due("5: not told", x.fault(), 3);
        Kit.due("38: none needed", Kit.sentence(x, "bare"), 1);
        for (int n : new int[] {0, 1, 998, 999}) {
            Kit.due("38: any NUMBER", Kit.sentence(x, "days<" + n + " or cloth=" + n + " or worth>" + n + " or number>" + n), 4);
        }
    }

    /** Where a text ends too early, the FAULT is at as many bytes as there are, blanks counted. */
    private static void atTheEnd() {
        String line = "man mm 1;coat cc mm 5 55;";
        boolean[] good = new boolean[line.length() + 1];
        good[0] = true;
        good[9] = true;
        good[line.length()] = true;
        for (int n = 0; n <= line.length(); n++) {
            String text = line.substring(0, n);
            boolean between = n == line.length() || !Character.isLetterOrDigit(line.charAt(n)) || n > 0 && !Character.isLetterOrDigit(line.charAt(n - 1));
            if (good[n]) {
                Kit.due("4: capital " + text, Kit.capital(new HeldCoats(), text), n == 0 ? 0 : n == 9 ? 1 : 2);
            } else if (between) {
                Kit.capitalFault(text, 1, n);
                Kit.capitalFault(text + " ", 1, n + 1);
                Kit.capitalFault(text + "\n\n", 1, n + 2);
            }
        }
        Kit.bookFault("fur lies throne", 1, 15);
        Kit.bookFault("fur lies throne  ", 1, 17);
        Kit.bookFault("fur lies", 1, 8);
        Kit.bookFault("fur", 1, 3);
        Kit.bookFault("day 5", 1, 5);
        Kit.sentenceFault("", 1, 0);
        Kit.sentenceFault("   ", 1, 3);
        Kit.sentenceFault("(bare ", 1, 6);
        Kit.sentenceFault("worth < ", 1, 8);
        Kit.sentenceFault("bare or ", 1, 8);
    }

    private static void firstAlongTheText() {
        Kit.capitalFault("seat s 0;town", 2, 7);
        Kit.capitalFault("seat s 1;seat s 0;", 3, 14);
        Kit.capitalFault("seat s 1;seat t 0;seat s 1;", 2, 16);
        Kit.capitalFault("cold 400 41;", 2, 5);
        Kit.capitalFault("cold 1 41;cold 1 1;", 2, 7);
        Kit.capitalFault("coat c m 99 0;", 3, 7);
        Kit.capitalFault("man m 1;coat c m 99 0;", 2, 17);
        Kit.capitalFault(Kit.FULL + "seat sa 0;#", 4, Kit.FULL.length());
        Kit.capitalFault("#" + Kit.FULL + "seat sa 0;", 1, 0);
        Kit.bookFault("fur lies sofa;day 0;", 3, 9);
        Kit.bookFault("day 0;fur lies sofa;", 2, 4);
        Kit.bookFault("day 0;".repeat(41), 2, 4);
        Kit.sentenceFault("of fur and (", 3, 3);
        Kit.sentenceFault("(((((((( bare and of fur", 4, 9);
    }

    private static void ofOneTokenTheLeast() {
        String forty = "day 1;".repeat(40);
        Kit.bookFault(forty + "#", 1, 240);
        Kit.bookFault(forty + "seat", 1, 240);
        Kit.bookFault(forty + "5", 1, 240);
        Kit.bookFault(forty + ";", 1, 240);
        Kit.bookFault(forty + "sofa", 3, 240);
        Kit.bookFault(forty + "throne", 3, 240);
        Kit.bookFault(forty + "fur", 4, 240);
        String twenty = "bare" + " or bare".repeat(19) + " or ";
        Kit.sentenceFault(twenty + "and", 1, twenty.length());
        Kit.sentenceFault(twenty + "ann", 1, twenty.length());
        Kit.sentenceFault(twenty + ")", 1, twenty.length());
        Kit.sentenceFault(twenty, 1, twenty.length());
        Kit.sentenceFault(twenty + "of", 4, twenty.length());
        Kit.sentenceFault("(".repeat(8) + "ann", 1, 8);
        Kit.sentenceFault("(".repeat(8) + ")", 1, 8);
        Kit.sentenceFault("(".repeat(8), 1, 8);
        Kit.sentenceFault("(".repeat(8) + "under ann", 4, 8);
        // a NAME that is not told, where no NAME can come at all
        Kit.capitalFault("man m 1;coat c m nobody 1;", 1, 17);
        Kit.bookFault("fur kept nobody;", 1, 9);
        // a NUMBER that is out of all bounds, where none can come
        Kit.capitalFault("seat 100 1;", 1, 5);
        Kit.capitalFault("man m 1;coat c 100 1 1;", 1, 15);
    }

    private static void faultOfTheLatest() {
        HeldCoats x = new HeldCoats();
        Kit.due("5: ahead of any", x.fault(), 0);
        Kit.capital(x, "seat s 0;");
        Kit.due("5: of a capital()", x.fault(), 2);
        Kit.hooks(x, 7);
        x.days(0);
        x.restore(0);
        Kit.due("5: other calls leave it", x.fault(), 2);
        Kit.due("36: another lives", x.book(2), -1000);
        Kit.due("5: a book() of -1000 leaves it", x.fault(), 2);
        Kit.due("36: another lives", x.book(-1), -1000);
        Kit.due("5: a book() of -1000 leaves it", x.fault(), 2);
        Kit.due("36: without", Kit.book(x, "day 1;", 0), NONE);
        Kit.due("5: 0 without one", x.fault(), 0);
        x.book(2);
        Kit.due("5: a book() of -1000 leaves 0, too", x.fault(), 0);
        Kit.book(x, "sofa kept;", 1);
        Kit.due("5: of a book()", x.fault(), 3);
        Kit.sentence(x, "bare");
        Kit.due("5: 0 without one", x.fault(), 0);
        Kit.sentence(x, "((((((((bare))))))))");
        Kit.due("5: of a sentence()", x.fault(), 4);
        Kit.capital(x, "");
        Kit.due("5: 0 without one", x.fault(), 0);
    }

    private static String pad(String text, int size) {
        return text + " ".repeat(size - text.length());
    }
}
