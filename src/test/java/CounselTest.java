/** Promises 16 to 35: what is best, shared, queued, frozen, otherwise, hung, paid and drawn. */
public final class CounselTest {
    private static final int NONE = HeldCoats.NONE;
    /** The third MAN comes to rule seldom and late, so that each of the twenty DAYS counts. */
    private static final String ODDS = "seat s 9;seat t 8;man p 0;man q 3;man r 3;coat c p 1 9;coat d q 1 99;coat e q 1 99;coat f q 1 99;coat g r 0 9;"
        + "moths 2;holds 3;cold 0 3;cold 9 1;cold 18 3;summer 2;";
    private static final int[] NO = {-1, 6, 8, 100, Integer.MIN_VALUE, Integer.MAX_VALUE};

    public static void main(String[] args) {
        best();
        share();
        queue();
        frost();
        word();
        firstDays();
        harm();
        hooks();
        price();
        drawn();
        odds();
        Kit.finish("CounselTest");
    }

    private static void best() {
        HeldCoats x = Kit.court();
        Kit.due("17: ahead of any", x.laid(), NONE);
        for (int n : NO) {
            Kit.due("16: no man", x.best(n, 5), NONE);
        }
        Kit.due("16: below 0", x.best(0, -1), NONE);
        Kit.due("16: above 999", x.best(0, 1000), NONE);
        Kit.due("17: none yet", x.laid(), NONE);
        Kit.due("16: nothing", x.best(0, 0), 0);
        Kit.due("17: nothing", x.laid(), 0);
        Kit.due("16: one: the least coats", x.best(0, 25), 50);
        Kit.due("17: the first", x.laid(), 1);
        Kit.due("16: both", x.best(0, 999), 70);
        Kit.due("17: both", x.laid(), 3);
        Kit.due("16: never", x.best(1, 24), NONE);
        Kit.due("17: stays", x.laid(), 3);
        x.lay(2, 0);
        Kit.due("16: bare seats alone", x.best(0, 999), 25);
        x.lend(1, 1);
        x.keep(1);
        x.wear(1, 1);
        Kit.due("16: what he wears is not his", x.best(1, 999), 0);
        Kit.due("17: nothing", x.laid(), 0);
        Kit.due("16: what is his he does not wear", x.best(0, 999), 20);
        Kit.due("17: fur", x.laid(), 1);
        HeldCoats y = Kit.of("seat s 9;seat t 99;man p 0;coat a p 5 9;coat b p 0 9;coat c p 3 9;cold 0 40;");
        Kit.due("16: 32 by itself is above", y.best(0, 999), NONE);
        HeldCoats z = Kit.of("seat s 9;seat t 99;man p 0;coat a p 5 9;coat b p 0 9;coat c p 3 9;cold 0 30;summer 40;");
        Kit.due("16: 22 by itself", z.best(0, 484), 99);
        Kit.due("17: the one that does not warm", z.laid(), 2);
        Kit.due("16: more coats than seats", z.best(0, 999), 108);
        Kit.due("17: the least two", z.laid(), 3);
        Kit.due("16: two in summer, too", z.best(0, 625), 108);
        Kit.due("17: not the warmest", z.laid(), 6);
        HeldCoats all = Kit.of("seat a 1;seat b 1;seat c 2;seat d 3;seat e 4;seat f 5;seat g 6;seat h 1;man m 0;coat aa m 0 1;"
            + "coat bb m 0 1;coat cc m 0 1;coat dd m 0 1;coat ee m 0 1;coat ff m 0 1;coat gg m 0 1;coat hh m 1 1;cold 0 1;");
        Kit.due("16: eight", all.best(0, 1), 23);
        Kit.due("17: eight", all.laid(), 255);
        Kit.due("16: seven", all.best(0, 0), 22);
        Kit.due("17: seven", all.laid(), 127);
    }

    private static void share() {
        HeldCoats x = Kit.court();
        Kit.due("19: ahead of any", x.turns(), NONE);
        for (int n : NO) {
            Kit.due("18: no man", x.share(n, 1, 0, 5), NONE);
            Kit.due("18: no man", x.share(1, n, 0, 5), NONE);
            Kit.due("18: no coat", x.share(0, 1, n, 5), NONE);
        }
        Kit.due("18: alike", x.share(1, 1, 0, 5), NONE);
        Kit.due("18: no days", x.share(0, 1, 0, 0), NONE);
        Kit.due("18: too many", x.share(0, 1, 0, 31), NONE);
        Kit.due("19: none yet", x.turns(), NONE);
        Kit.due("18: bob's rug", x.share(0, 1, 2, 3), 75);
        Kit.due("19: bob's turns", x.turns(), 7);
        Kit.due("18: one day", x.share(0, 1, 2, 1), 25);
        Kit.due("19: one day", x.turns(), 1);
        Kit.due("18: the other way", x.share(1, 0, 2, 3), 75);
        Kit.due("19: nobody else's", x.turns(), 0);
        Kit.due("18: none", x.share(1, 1, 2, 3), NONE);
        Kit.due("19: stays", x.turns(), 0);
        Kit.due("18: a third one's coat", x.share(1, 0, 3, 6), 4 * 16);
        x.days(1);
        x.lay(0, 0);
        x.days(3);
        Kit.due("18: eaten", x.share(0, 1, 0, 5), NONE);
        HeldCoats y = Kit.of("man p 0;man q 4;coat c p 6 1;coat d q 2 1;cold 0 5;cold 2 20;cold 3 0;cold 399 8;");
        Kit.due("18: day by day", y.share(0, 1, 0, 5), 0 + 0 + (14 * 14 + 14 * 14));
        Kit.due("19: the first", y.turns(), 0);
        Kit.due("18: day by day", y.share(1, 0, 0, 5), 392);
        Kit.due("19: the second", y.turns(), 7);
        for (int k = 0; k < 7; k++) {
            y.days(60);
        }
        Kit.due("18: days above 399", y.share(0, 1, 0, 30), 30 * 8);
        Kit.due("19: all for the first", y.turns(), 0);
        Kit.due("18: days above 399", y.share(1, 0, 0, 30), 30 * 8);
        Kit.due("19: thirty", y.turns(), (1 << 30) - 1);
        HeldCoats w = Kit.of("man p 3;man q 7;coat c p 6 1;cold 0 9;cold 1 11;cold 2 2;");
        Kit.due("18: by hardy ones", w.share(0, 1, 0, 3), 0 + 4 + 4 + 16);
        Kit.due("19: by hardy ones", w.turns(), 0);
        Kit.due("18: by hardy ones", w.share(1, 0, 0, 3), 24);
        Kit.due("19: by hardy ones", w.turns(), 3);
        HeldCoats z = Kit.of("man p 3;man q 3;coat c p 6 1;cold 0 9;");
        Kit.due("18: alike", z.share(0, 1, 0, 2), 72);
        Kit.due("19: of like ones the first man", z.turns(), 0);
    }

    private static void queue() {
        HeldCoats x = Kit.of("seat s 1;man p 0;coat a p 0 9;coat b p 0 9;coat c p 0 9;coat d p 0 9;coat e p 0 9;");
        for (int n : NO) {
            Kit.due("20: no coat", x.ahead(n), NONE);
            Kit.due("21: none such", x.queue(n), NONE);
        }
        for (int n : new int[] {-1, 32, 1 << 8, 1 << 31, 1 << 30}) {
            Kit.due("22: no coats", x.bribes(n), NONE);
        }
        Kit.due("20: worn", x.ahead(0), NONE);
        Kit.due("22: nobody", x.bribes(0), 0);
        for (int c : new int[] {3, 1, 4, 0}) {
            x.keep(c);
        }
        Kit.due("20: first", x.ahead(3), 0);
        Kit.due("20: last", x.ahead(0), 3);
        Kit.due("21: k-th", x.queue(2), 4);
        Kit.due("22: one is worn", x.bribes(4 | 8), NONE);
        Kit.due("22: the first", x.bribes(8), 0);
        Kit.due("22: the first two", x.bribes(8 | 2), 0);
        Kit.due("22: the last", x.bribes(1), 1);
        Kit.due("22: first and third", x.bribes(8 | 16), 1);
        Kit.due("22: all but the second", x.bribes(8 | 16 | 1), 2);
        Kit.due("22: all but the first", x.bribes(2 | 16 | 1), 3);
        Kit.due("22: all", x.bribes(27), 0);
        Kit.due("22: nothing moved", x.queue(0), 3);
        x.wear(0, 1);
        Kit.due("20: one less", x.ahead(4), 1);
        Kit.due("22: worn now", x.bribes(2), NONE);
    }

    private static void frost() {
        HeldCoats x = Kit.court();
        for (int n : NO) {
            Kit.due("23: no man", x.frost(n, 0), NONE);
            Kit.due("23: no man", x.frost(0, n), NONE);
            Kit.due("24: no man", x.frostAt(n, 0), NONE);
            Kit.due("24: no man", x.frostAt(0, n), NONE);
        }
        Kit.due("23: alike", x.frost(1, 1), NONE);
        Kit.due("24: alike", x.frostAt(1, 1), NONE);
        Kit.due("23: ann stands", x.frost(0, 1), 0);
        Kit.due("23: either way", x.frost(1, 0), 0);
        Kit.due("24: above, not at the limit", x.frostAt(1, 0), 3);
        Kit.due("23: nobody", x.frost(0, 2), NONE);
        Kit.due("24: nobody", x.frostAt(0, 2), NONE);
        x.days(1);
        Kit.due("24: counted from now on", x.frostAt(0, 1), 4);
        HeldCoats y = Kit.of("man p 1;man q 0;man r 1;cold 0 20;limit 300;");
        Kit.due("23: on the same day who has more", y.frost(0, 1), 0);
        Kit.due("24: on the same day", y.frostAt(0, 1), 0);
        Kit.due("23: alike then", y.frost(0, 2), NONE);
        Kit.due("24: alike then", y.frostAt(0, 2), NONE);
        Kit.due("23: the other way", Kit.of("man p 0;man q 1;cold 0 20;limit 300;").frost(0, 1), 1);
        Kit.due("23: the other way", Kit.of("man p 0;man q 9;cold 0 20;").frost(0, 1), 1);
        HeldCoats z = Kit.of("man p 20;man q 0;cold 399 40;limit 999;");
        Kit.due("24: on day 399", z.frostAt(0, 1), 399);
        for (int k = 0; k < 7; k++) {
            z.days(60);
        }
        Kit.due("23: all are over", z.frost(0, 1), NONE);
    }

    private static void word() {
        HeldCoats x = Kit.of("seat s 9;seat t 8;man p 0;man q 0;coat c p 0 99;coat d q 0 99;"
            + "summer 5;moths 0;holds 12;cold 0 9;cold 2 4;cold 6 5;cold 10 0;");
        Kit.due("25: not as told", x.word(0), NONE);
        Kit.due("25: not as told", x.word(61), NONE);
        Kit.due("25: not as told", x.word(-5), NONE);
        Kit.due("25: nothing lies", x.word(60), 0);
        x.lay(0, 0);
        Kit.due("25: no summer yet", x.word(2), 0);
        Kit.due("25: one", x.word(3), 1);
        Kit.due("25: till holds end", x.word(60), 4 + 2);
        Kit.due("25: nothing changed", x.now(0), 0);
        HeldCoats y = Kit.of("seat s 9;man p 0;coat c p 0 99;summer 1;moths 0;holds 30;");
        for (int k = 0; k < 6; k++) {
            y.days(60);
        }
        y.days(38);
        y.lay(0, 0);
        Kit.due("25: till all are over", y.word(60), 2);
    }

    private static void firstDays() {
        HeldCoats x = Kit.of("seat s 9;seat t 8;man p 0;man q 0;coat c p 0 99;coat d q 0 20;"
            + "summer 5;moths 5;holds 30;cold 0 9;cold 1 4;cold 2 9;");
        for (int n : NO) {
            Kit.due("27: no man", x.rules(n), NONE);
        }
        Kit.due("26: today", x.bare(), 0);
        Kit.due("27: never", x.rules(0), NONE);
        x.lay(1, 0);
        Kit.due("27: today", x.rules(1), 0);
        Kit.due("26: in summer", x.bare(), 1);
        x.lay(0, 1);
        Kit.due("27: when the other's is eaten", x.rules(0), 4);
        x.days(2);
        Kit.due("27: from now on", x.rules(1), 2);
        Kit.due("27: from now on", x.rules(0), 4);
        Kit.due("26: when both are eaten", x.bare(), 20);
        Kit.due("26: nothing changed", x.now(0), 2);
        HeldCoats y = Kit.of("seat s 9;man p 0;coat c p 0 99;moths 0;holds 2;");
        for (int k = 0; k < 6; k++) {
            y.days(60);
        }
        y.days(38);
        y.lay(0, 0);
        Kit.due("26: none by 399", y.bare(), NONE);
        Kit.due("27: today", y.rules(0), 398);
        y.days(2);
        Kit.due("27: over", y.rules(0), NONE);
        Kit.due("26: over", y.bare(), NONE);
    }

    private static void harm() {
        HeldCoats x = Kit.court();
        for (int n : NO) {
            Kit.due("28: no man", x.harm(n, 5), NONE);
        }
        Kit.due("28: no days", x.harm(0, 0), NONE);
        Kit.due("28: no days", x.harm(0, 61), NONE);
        Kit.due("28: bob", x.harm(1, 5), 100);
        Kit.due("28: bob on", x.harm(1, 60), 100);
        Kit.due("28: ann", x.harm(0, 1), 0);
        Kit.due("28: cid", x.harm(2, 1), 1);
        x.days(3);
        Kit.due("28: more", x.harm(1, 5), 25);
        x.lay(2, 0);
        Kit.due("28: without his rug", x.harm(1, 3), 100 + 4 + 4);
        HeldCoats y = Kit.of("man p 0;cold 0 2;");
        for (int k = 0; k < 6; k++) {
            y.days(60);
        }
        y.days(30);
        Kit.due("28: till all are over", y.harm(0, 60), 40);
        y.days(10);
        Kit.due("28: over", y.harm(0, 60), 0);
    }

    private static void hooks() {
        HeldCoats x = Kit.court();
        Kit.due("30: ahead of any", x.surely(), NONE);
        Kit.due("31: ahead of any", x.never(), NONE);
        Kit.due("29: too few", Kit.hooks(x, 9, 9), NONE);
        Kit.due("29: too many", Kit.hooks(x, 9, 9, 9, 9), NONE);
        Kit.due("29: none", Kit.hooks(x), NONE);
        Kit.due("29: no man", Kit.hooks(x, 9, 9, 3), NONE);
        Kit.due("29: no man", Kit.hooks(x, 9, 255, 9), NONE);
        Kit.due("29: more than he has", Kit.hooks(x, 1, 9, 1), 0);
        Kit.due("30: not above 0", x.surely(), NONE);
        Kit.due("31: not above 0", x.never(), NONE);
        Kit.due("29: the tape is empty then", x.count(7), 0);
        Kit.due("29: ways", Kit.hooks(x, 0, 9, 1), 2);
        Kit.due("30: rug", x.surely(), 4);
        Kit.due("31: shawl", x.never(), 8);
        Kit.due("29: one way", Kit.hooks(x, 9, 2, 9), 1);
        Kit.due("30: shawl", x.surely(), 8);
        Kit.due("31: the others", x.never(), 7);
        Kit.due("29: orders", Kit.hooks(x, 0, 0, 9), 2);
        Kit.due("30: both", x.surely(), 3);
        Kit.due("31: the others", x.never(), 12);
        Kit.due("29: not as told", Kit.hooks(x, 7, 7, 7), NONE);
        Kit.due("30: stays", x.surely(), 3);
        Kit.due("31: stays", x.never(), 12);
        x.lay(0, 0);
        x.days(4);
        Kit.due("29: eaten ones, too", Kit.hooks(x, 0, 0, 9), 2);
        HeldCoats y = Kit.of("seat a 1;seat b 1;seat c 1;seat d 1;seat e 1;seat f 1;seat g 1;seat h 1;man m 0;coat aa m 0 1;"
            + "coat bb m 0 1;coat cc m 0 1;coat dd m 0 1;coat ee m 0 1;coat ff m 0 1;coat gg m 0 1;coat hh m 0 1;");
        Kit.due("29: eight", Kit.hooks(y, 0, 0, 0, 0, 0, 0, 0, 0), 40320);
        Kit.due("30: all", y.surely(), 255);
        Kit.due("31: none", y.never(), 0);
        Kit.due("29: three of eight", Kit.hooks(y, 0, 9, 0, 9, 9, 9, 9, 0), 336);
        Kit.due("30: none", y.surely(), 0);
        Kit.due("31: none", y.never(), 0);
        HeldCoats z = Kit.of("seat s 1;");
        Kit.due("29: no men", Kit.hooks(z, 0), NONE);
        Kit.due("29: bare", Kit.hooks(z, 9), 1);
        Kit.due("29: no seats", Kit.hooks(new HeldCoats()), NONE);
    }

    private static void price() {
        HeldCoats x = Kit.court();
        Kit.due("33: ahead of any", x.price(), NONE);
        Kit.due("32: up", x.rounds(), 21);
        Kit.due("33: up", x.price(), 25);
        x.keep(3);
        Kit.due("33: as it was", x.price(), 25);
        Kit.due("32: as many", x.rounds(), 1);
        Kit.due("33: as many", x.price(), 5);
        x.lay(2, 0);
        x.keep(0);
        x.keep(1);
        Kit.due("32: down", x.rounds(), 3);
        Kit.due("33: down", x.price(), 3);
        HeldCoats y = Kit.of("man p 0;man q 0;coat c p 0 1;cold 0 7;");
        y.keep(0);
        Kit.due("32: no rest", y.rounds(), 60);
        Kit.due("33: no rest", y.price(), 49);
        HeldCoats z = Kit.of("man p 0;coat c p 0 1;");
        z.keep(0);
        Kit.due("32: 0 at least", z.rounds(), 6);
        Kit.due("33: 0 at least", z.price(), 0);
    }

    private static void drawn() {
        HeldCoats x = Kit.court();
        Kit.due("34: no days", x.drawn(0, 1), NONE);
        Kit.due("34: no days", x.drawn(61, 1), NONE);
        Kit.due("34: no coats", Kit.of("seat s 1;man m 0;").drawn(1, 1), NONE);
        for (int seed : new int[] {1, 7, -5, Integer.MAX_VALUE, 123456789}) {
            drawnAs(Kit.COURT, seed, 60);
            drawnAs("man p 0;man q 1;coat c p 1 5;coat d q 1 5;cold 0 3;", seed, 7);
            drawnAs("seat s 5;man p 0;man q 1;coat c p 1 5;coat d q 1 99;coat e p 0 99;cold 0 3;holds 2;", seed, 50);
            drawnAs(ODDS, seed, 20);
        }
        Kit.due("34: sixty", x.drawn(60, 9), 60);
        Kit.due("34: day", x.now(0), 60);
        for (int k = 0; k < 5; k++) {
            x.drawn(60, k);
        }
        Kit.due("34: those that are left", x.drawn(60, 9), 40);
        Kit.due("34: over", x.drawn(60, 9), 0);
        Kit.due("15: the forty", x.undo(), 6);
        Kit.due("34: day", x.now(0), 360);
    }

    /** The same DAYS by single acts, with the draws made here. */
    private static void drawnAs(String text, int seed, int n) {
        HeldCoats x = Kit.of(text);
        HeldCoats y = Kit.of(text);
        Kit.due("34: drawn", x.drawn(n, seed), n);
        int s = seed;
        for (int k = 0; k < n; k++) {
            for (int c = 0; c < y.count(2); c++) {
                s = s * 1103515245 + 12345;
                int what = (s >>> 8) % 6;
                if (what == 0 && y.count(0) > 0) {
                    s = s * 1103515245 + 12345;
                    y.lay(c, (s >>> 8) % y.count(0));
                } else if (what == 1) {
                    y.wear(y.coat(c, 0), c);
                } else if (what == 2) {
                    y.keep(c);
                }
            }
            y.days(1);
        }
        for (int what = 0; what < 8; what++) {
            Kit.due("34: now", x.now(what), y.now(what));
            Kit.due("34: queue", x.queue(what), y.queue(what));
            for (int m = 0; m < x.count(1); m++) {
                Kit.due("34: man", x.man(m, what), y.man(m, what));
            }
        }
        for (int c = 0; c < x.count(2); c++) {
            for (int what = 0; what < 5; what++) {
                Kit.due("34: coat", x.coat(c, what), y.coat(c, what));
            }
        }
    }

    private static void odds() {
        HeldCoats x = Kit.court();
        for (int n : NO) {
            Kit.due("35: no man", x.odds(n, 5, 1), NONE);
        }
        Kit.due("35: no seeds", x.odds(0, 0, 1), NONE);
        Kit.due("35: too many", x.odds(0, 31, 1), NONE);
        Kit.due("35: no coats", Kit.of("seat s 1;man m 0;").odds(0, 1, 1), NONE);
        Kit.due("35: no seats", Kit.of("man m 0;coat c m 0 1;").odds(0, 30, 1), 0);
        HeldCoats y = Kit.of(ODDS);
        y.days(2);
        for (int seed : new int[] {0, 77, Integer.MAX_VALUE - 3, -9}) {
            for (int m = 0; m < 3; m++) {
                Kit.due("35: odds", y.odds(m, 30, seed), oddsAs(m, 30, seed));
                Kit.due("35: odds", y.odds(m, 7, seed), oddsAs(m, 7, seed));
                Kit.due("35: odds", y.odds(m, 1, seed), oddsAs(m, 1, seed));
            }
        }
        Kit.due("35: nothing changed", y.now(0), 2);
        Kit.due("35: no act", y.undo(), 0);
        for (int k = 0; k < 7; k++) {
            y.days(60);
        }
        Kit.due("35: over", y.odds(0, 30, 1), 0);
    }

    private static int oddsAs(int m, int n, int seed) {
        int by = 0;
        for (int k = 0; k < n; k++) {
            HeldCoats y = Kit.of(ODDS);
            y.days(2);
            y.drawn(20, seed + k);
            by += y.man(m, 6) > 0 ? 1 : 0;
        }
        return by;
    }
}
