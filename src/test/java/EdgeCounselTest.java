/** The bounds of the document's third section, and of promises 16 to 35: at each and one beyond, and what stays as it is. */
public final class EdgeCounselTest {
    private static final int NONE = HeldCoats.NONE;
    private static final int[] FAR = {-1, -2, 9, 10, 20, 31, 32, 1000, Integer.MIN_VALUE, Integer.MAX_VALUE};

    public static void main(String[] args) {
        bestBounds();
        bestByHarm();
        bestOfWhat();
        bestOfLikeOnes();
        shareBounds();
        shareOfWhat();
        shareTurns();
        aheadAndQueue();
        bribes();
        frostBounds();
        frostByLimit();
        wordBounds();
        wordByDays();
        bareBounds();
        rulesBounds();
        harmBounds();
        hooksBounds();
        hooksWays();
        roundsBounds();
        drawnBounds();
        drawnByDraws();
        oddsBounds();
        aheadOfAny();
        whatStays();
        questionsLeaveAll();
        Kit.finish("EdgeCounselTest");
    }

    private static void bestBounds() {
        HeldCoats x = Kit.of("seat s 5;man m 0;coat c m 0 1;");
        Kit.due("16: h 0", x.best(0, 0), 5);
        Kit.due("16: h 999", x.best(0, 999), 5);
        for (int h : new int[] {-1, 1000, Integer.MIN_VALUE, Integer.MAX_VALUE}) {
            Kit.due("16: no such h", x.best(0, h), NONE);
        }
        for (int m : FAR) {
            Kit.due("16: no such MAN", x.best(m, 5), NONE);
        }
        Kit.due("16: one MAN too many", x.best(1, 5), NONE);
        Kit.due("16: the last MAN", Kit.full().best(5, 999), 99 + 7);
        Kit.due("16: one too many", Kit.full().best(6, 999), NONE);
        Kit.due("16: none in an empty CAPITAL", new HeldCoats().best(0, 999), NONE);
    }

    /** HARM of h at most: just h is fine, one more is not. */
    private static void bestByHarm() {
        HeldCoats x = Kit.of("seat s 5;seat t 7;man m 1;coat a m 2 9;coat b m 3 9;cold 0 9;");
        check(x, 8, NONE, NONE);
        check(x, 9, 0, 0);
        check(x, 24, 0, 0);
        check(x, 25, 7, 1);
        check(x, 35, 7, 1);
        check(x, 63, 7, 1);
        check(x, 64, 12, 3);
        check(x, 999, 12, 3);
        check(x, 8, NONE, 3);
        HeldCoats y = Kit.of("seat s 5;man m 0;coat a m 0 9;cold 0 31;");
        check(y, 960, NONE, NONE);
        check(y, 961, 5, 1);
        HeldCoats z = Kit.of("seat s 5;man m 0;coat a m 0 9;cold 0 32;");
        check(z, 999, NONE, NONE);
        HeldCoats warm = Kit.of("seat s 5;man m 5;coat a m 20 9;cold 0 5;");
        check(warm, 0, 5, 1);
    }

    private static void check(HeldCoats x, int h, int worth, int coats) {
        Kit.due("16: for HARM " + h, x.best(0, h), worth);
        Kit.due("17: for HARM " + h, x.laid(), coats);
    }

    private static void bestOfWhat() {
        HeldCoats x = Kit.of("seat s 9;seat t 8;seat u 7;man m 0;man n 0;coat a m 0 1;coat b m 0 9;coat c m 0 9;coat d n 0 9;coat e m 0 9;");
        check(x, 0, 24, 7);
        x.lay(0, 0);
        check(x, 0, 15, 6);
        x.days(1);
        Kit.due("8: eaten", x.coat(0, 3), 30);
        check(x, 0, 24, 22);
        x.keep(1);
        check(x, 0, 17, 20);
        x.lend(4, 1);
        check(x, 0, 17, 20);
        x.keep(4);
        x.wear(1, 4);
        check(x, 0, 9, 4);
        x.lend(3, 0);
        x.keep(3);
        x.wear(0, 3);
        check(x, 0, 9, 4);
        Kit.due("16: his that he wears, not what is lent to him", x.best(1, 0), 0);
        Kit.due("17: none", x.laid(), 0);
        x.lay(3, 0);
        x.lay(4, 2);
        check(x, 0, 8, 4);
        x.lay(2, 1);
        check(x, 0, 0, 0);
        HeldCoats none = Kit.of("man m 0;coat a m 0 9;");
        check(none, 0, 0, 0);
        HeldCoats bald = Kit.of("seat s 9;man m 0;cold 0 3;");
        check(bald, 8, NONE, NONE);
        check(bald, 9, 0, 0);
        // fewer bare SEATS than at the call before
        HeldCoats y = Kit.of("seat s 9;seat t 8;seat u 7;man m 0;man n 0;coat a m 0 9;coat b m 0 9;coat c m 0 9;coat d n 0 9;");
        check(y, 0, 24, 7);
        y.lay(3, 0);
        check(y, 0, 15, 3);
        // SUMMER or not
        HeldCoats z = Kit.of("seat s 9;man m 0;coat a m 0 9;summer 1;");
        check(z, 0, 9, 1);
    }

    private static void bestOfLikeOnes() {
        HeldCoats x = Kit.of("seat s 9;seat t 9;man m 0;coat a m 4 9;coat b m 1 9;coat c m 2 9;coat d m 3 9;cold 0 10;");
        check(x, 9, 18, 6);
        check(x, 8, 9, 2);
        check(x, 16, 18, 6);
        check(x, 25, 18, 3);
        check(x, 1, 9, 2);
        check(x, 4, 9, 2);
        check(x, 0, 0, 0);
        HeldCoats y = Kit.of("seat s 9;man m 0;coat a m 3 9;coat b m 2 9;coat c m 2 9;cold 0 7;");
        check(y, 4, 9, 2);
        check(y, 9, 9, 1);
    }

    private static void shareBounds() {
        HeldCoats x = Kit.court();
        for (int n : new int[] {0, -1, 31, 32, Integer.MIN_VALUE, Integer.MAX_VALUE}) {
            Kit.due("18: no such DAYS", x.share(0, 1, 2, n), NONE);
        }
        Kit.due("18: alike", x.share(0, 0, 2, 1), NONE);
        Kit.due("18: alike", x.share(2, 2, 2, 1), NONE);
        for (int n : FAR) {
            Kit.due("18: no such MAN", x.share(n, 1, 2, 1), NONE);
            Kit.due("18: no such MAN", x.share(1, n, 2, 1), NONE);
            Kit.due("18: no such COAT", x.share(0, 1, n, 1), NONE);
        }
        Kit.due("18: one MAN too many", x.share(0, 3, 2, 1), NONE);
        Kit.due("18: one MAN too many", x.share(3, 0, 2, 1), NONE);
        Kit.due("18: one COAT too many", x.share(0, 1, 4, 1), NONE);
        Kit.due("19: NONE ahead of any", x.turns(), NONE);
        Kit.due("18: one DAY", x.share(0, 1, 2, 1), 25);
        Kit.due("19: one DAY", x.turns(), 1);
        Kit.due("18: thirty DAYS", x.share(0, 1, 2, 30), 100);
        Kit.due("19: thirty DAYS", x.turns(), (1 << 30) - 1);
        Kit.due("18: the last ones", Kit.full().share(4, 5, 7, 1), 11 * 11 + 14 * 14);
        HeldCoats y = Kit.of("man m 0;man n 0;coat a m 5 9;cold 29 5;cold 30 40;");
        Kit.due("18: up to the thirtieth", y.share(0, 1, 0, 30), 25);
        Kit.due("18: the day ahead of it", y.share(0, 1, 0, 29), 0);
        Kit.due("19: of like ones the first MAN", y.turns(), 0);
        HeldCoats z = Kit.of("man m 5;man n 0;coat a m 5 9;cold 29 5;cold 30 40;");
        Kit.due("18: the second one's need", z.share(0, 1, 0, 30), 0);
        Kit.due("19: the thirtieth alone", z.turns(), 1 << 29);
    }

    private static void shareOfWhat() {
        String text = "seat s 1;man m 0;man n 2;man o 0;coat a o 4 2;coat b m 1 9;cold 0 9;";
        int want = Math.min(4 * 4 + 7 * 7, 8 * 8 + 3 * 3);
        HeldCoats x = Kit.of(text);
        Kit.due("18: a third one wears it", x.share(0, 1, 0, 1), want);
        x.lay(0, 0);
        Kit.due("18: it lies", x.share(0, 1, 0, 1), want);
        x.wear(2, 0);
        x.keep(0);
        Kit.due("18: it is kept", x.share(0, 1, 0, 1), want);
        x.lend(0, 0);
        x.wear(0, 0);
        Kit.due("18: the first one wears it", x.share(0, 1, 0, 1), want);
        x.keep(0);
        x.lend(0, 1);
        x.wear(1, 0);
        Kit.due("18: the second one wears it", x.share(0, 1, 0, 1), want);
        Kit.due("18: of whom it is not counted", x.share(0, 2, 0, 1), 8 * 8 + 5 * 5);
        Kit.due("18: what each wears besides as it is now", x.share(1, 2, 1, 1), 3 * 3 + 8 * 8);
        x.lay(0, 0);
        x.days(1);
        Kit.due("18: with cloth yet", x.share(0, 1, 0, 1), want);
        x.days(1);
        Kit.due("8: eaten", x.coat(0, 3), 30);
        Kit.due("18: eaten", x.share(0, 1, 0, 1), NONE);
        for (int day = 398; day <= 400; day++) {
            HeldCoats y = Kit.later("man m 0;man n 2;coat a m 2 9;cold 0 1;cold 399 9;", day);
            Kit.due("18: DAYS above 399, too, from " + day, y.share(0, 1, 0, 3), day == 398 ? 2 * (49 + 49) : 3 * (49 + 49));
        }
    }

    private static void shareTurns() {
        HeldCoats x = Kit.of("man m 0;man n 5;coat a m 5 9;coat b n 1 9;cold 0 5;cold 1 6;cold 2 7;cold 3 20;cold 4 0;");
        Kit.due("18: by days", x.share(1, 0, 0, 5), 0 + 1 + (1 + 4) + (14 * 14 + 15 * 15) + 0);
        Kit.due("19: when the second one needs it more", x.turns(), 15);
        Kit.due("18: the other way", x.share(0, 1, 0, 5), 427);
        Kit.due("19: the first", x.turns(), 0);
        HeldCoats y = Kit.of("man m 3;man n 3;coat a m 5 9;cold 0 9;");
        y.share(0, 1, 0, 30);
        Kit.due("19: of like ones the first MAN", y.turns(), 0);
        y.share(1, 0, 0, 30);
        Kit.due("19: of like ones the first MAN", y.turns(), 0);
        HeldCoats z = Kit.of("man m 3;man n 4;coat a m 5 9;cold 0 9;");
        z.share(1, 0, 0, 30);
        Kit.due("19: on all thirty", z.turns(), (1 << 30) - 1);
    }

    private static void aheadAndQueue() {
        HeldCoats x = Kit.of("seat s 1;man m 0;coat a m 0 1;coat b m 0 9;coat c m 0 9;");
        Kit.due("21: nobody", x.queue(0), NONE);
        for (int n : FAR) {
            Kit.due("20: no such COAT", x.ahead(n), NONE);
            Kit.due("21: none such", x.queue(n), NONE);
        }
        Kit.due("20: one COAT too many", x.ahead(3), NONE);
        Kit.due("20: worn", x.ahead(0), NONE);
        x.lay(0, 0);
        Kit.due("20: it lies", x.ahead(0), NONE);
        x.days(1);
        Kit.due("20: eaten", x.ahead(0), NONE);
        x.keep(2);
        x.keep(1);
        Kit.due("20: nobody is ahead", x.ahead(2), 0);
        Kit.due("20: one is ahead", x.ahead(1), 1);
        Kit.due("21: the first", x.queue(0), 2);
        Kit.due("21: the last", x.queue(1), 1);
        Kit.due("21: one too many", x.queue(2), NONE);
        x.wear(0, 1);
        Kit.due("21: no more", x.queue(1), NONE);
        Kit.due("20: no more", x.ahead(1), NONE);
    }

    private static void bribes() {
        HeldCoats x = Kit.full();
        Kit.due("22: none of none", x.bribes(0), 0);
        x.lay(0, 0);
        Kit.due("22: it lies", x.bribes(1), NONE);
        x.days(1);
        Kit.due("22: it is eaten", x.bribes(1), NONE);
        Kit.due("22: it is worn", x.bribes(128), NONE);
        for (int c = 7; c >= 1; c--) {
            x.keep(c);
        }
        Kit.due("22: all that are there", x.bribes(254), 0);
        Kit.due("22: one more than are there", x.bribes(255), NONE);
        Kit.due("22: the first", x.bribes(128), 0);
        Kit.due("22: the last", x.bribes(2), 1);
        Kit.due("22: all but the first", x.bribes(126), 6);
        Kit.due("22: all but the last", x.bribes(252), 0);
        Kit.due("22: all but the one in the middle", x.bribes(254 - 16), 3);
        Kit.due("22: every other one", x.bribes(128 + 32 + 8 + 2), 3);
        for (int set : new int[] {256, 256 + 128, -1, Integer.MIN_VALUE, Integer.MIN_VALUE + 128, Integer.MAX_VALUE, 1 << 30}) {
            Kit.due("22: no such ones", x.bribes(set), NONE);
        }
        HeldCoats y = Kit.of("man m 0;coat a m 0 9;");
        y.keep(0);
        Kit.due("22: the only one", y.bribes(1), 0);
        Kit.due("22: one COAT too many", y.bribes(2), NONE);
        Kit.due("22: one COAT too many", y.bribes(3), NONE);
        Kit.due("22: none such in an empty CAPITAL", new HeldCoats().bribes(1), NONE);
        Kit.due("22: none of none there", new HeldCoats().bribes(0), 0);
    }

    private static void frostBounds() {
        HeldCoats x = Kit.of("man m 0;man n 1;cold 0 20;");
        for (int n : FAR) {
            frost(x, n, 0, NONE, NONE);
            frost(x, 0, n, NONE, NONE);
        }
        frost(x, 0, 2, NONE, NONE);
        frost(x, 2, 0, NONE, NONE);
        frost(x, 0, 0, NONE, NONE);
        frost(x, 1, 1, NONE, NONE);
        frost(x, 0, 1, 1, 0);
        frost(x, 1, 0, 1, 0);
        frost(Kit.full(), 4, 5, 5, 6);
        frost(Kit.full(), 5, 6, NONE, NONE);
        // by DAY 399
        HeldCoats last = Kit.of("man m 19;man n 20;cold 399 40;limit 440;");
        frost(last, 0, 1, 1, 399);
        frost(Kit.later("man m 19;man n 20;cold 399 40;limit 440;", 399), 0, 1, 1, 399);
        frost(Kit.of("man m 19;man n 20;cold 399 40;limit 441;"), 0, 1, NONE, NONE);
        HeldCoats over = Kit.later("man m 19;man n 20;cold 399 40;limit 440;", 400);
        frost(over, 0, 1, NONE, NONE);
    }

    /** Above 'limit', not at it; an earlier DAY ahead of all, more HARM on the same one, nobody of like ones. */
    private static void frostByLimit() {
        frost(Kit.of("man m 0;man n 5;cold 0 5;limit 24;"), 0, 1, 1, 0);
        frost(Kit.of("man m 0;man n 5;cold 0 5;limit 25;"), 0, 1, 1, 1);
        frost(Kit.of("man m 0;man n 5;cold 0 5;limit 49;"), 0, 1, 1, 1);
        frost(Kit.of("man m 0;man n 5;cold 0 5;limit 50;"), 0, 1, 1, 2);
        frost(Kit.of("man m 0;man n 1;cold 0 5;limit 20;"), 1, 0, 1, 0);
        frost(Kit.of("man m 0;man n 1;cold 0 5;limit 15;"), 0, 1, 1, 0);
        frost(Kit.of("man m 0;man n 1;cold 0 5;limit 15;"), 1, 0, 1, 0);
        frost(Kit.of("man m 1;man n 1;cold 0 5;limit 15;"), 0, 1, NONE, NONE);
        frost(Kit.of("man m 5;man n 5;cold 0 5;limit 1;"), 0, 1, NONE, NONE);
        // nothing is worn, and what was so far does not count
        HeldCoats x = Kit.of("man m 0;man n 1;coat a m 20 9;cold 0 5;cold 3 3;limit 20;");
        frost(x, 0, 1, 1, 0);
        x.days(3);
        Kit.due("7: HARM so far", x.man(1, 2), 48);
        frost(x, 0, 1, 1, 5);
        frost(Kit.of("man m 0;man n 5;cold 0 5;"), 0, 1, 1, 8);
        frost(Kit.of("man m 0;man n 5;cold 0 1;limit 399;"), 0, 1, 1, 399);
        frost(Kit.of("man m 0;man n 5;cold 0 1;limit 400;"), 0, 1, NONE, NONE);
        frost(Kit.later("man m 0;man n 5;cold 0 1;limit 399;", 1), 0, 1, NONE, NONE);
    }

    private static void frost(HeldCoats x, int m, int o, int who, int when) {
        Kit.due("23: frost of " + m + ", " + o, x.frost(m, o), who);
        Kit.due("24: frostAt of " + m + ", " + o, x.frostAt(m, o), when);
    }

    private static void wordBounds() {
        HeldCoats x = Kit.of("seat s 9;man m 0;coat a m 0 99;summer 1;moths 0;holds 30;");
        x.lay(0, 0);
        for (int n : new int[] {0, -1, 61, 62, Integer.MIN_VALUE, Integer.MAX_VALUE}) {
            Kit.due("25: not as told", x.word(n), NONE);
        }
        Kit.due("25: one DAY", x.word(1), 1);
        Kit.due("25: till holds end", x.word(60), 30);
        Kit.due("25: the DAY ahead of it", x.word(29), 29);
        Kit.due("25: its last DAY", x.word(30), 30);
        Kit.due("25: the next", x.word(31), 30);
        Kit.due("25: not as told in an empty CAPITAL", new HeldCoats().word(0), NONE);
        Kit.due("25: none in an empty CAPITAL", new HeldCoats().word(60), 0);
        for (int day : new int[] {370, 371, 398, 399, 400}) {
            HeldCoats y = Kit.later("seat s 9;man m 0;coat a m 0 99;summer 1;moths 0;holds 30;", day);
            y.lay(0, 0);
            Kit.due("25: till all are over, from " + day, y.word(60), 400 - day);
            Kit.due("25: one DAY, from " + day, y.word(1), day == 400 ? 0 : 1);
        }
    }

    private static void wordByDays() {
        String text = "seat s 9;seat t 8;man m 0;man n 0;coat a m 0 99;coat b n 0 99;moths 0;holds 30;cold 0 5;cold 2 4;cold 4 6;";
        int[] summers = {0, 4, 5, 6, 7};
        int[] want = {0, 0, 2, 4, 10};
        for (int k = 0; k < summers.length; k++) {
            HeldCoats x = Kit.of(text + "summer " + summers[k] + ";");
            Kit.due("25: nobody would RULE", x.word(10), 0);
            x.lay(1, 1);
            x.lay(0, 0);
            Kit.due("25: below " + summers[k], x.word(10), want[k]);
            Kit.due("25: nothing goes by", x.now(0), 0);
        }
        HeldCoats none = Kit.of(text);
        none.lay(0, 0);
        Kit.due("25: without 'summer' as it is", none.word(60), 0);
    }

    private static void bareBounds() {
        Kit.due("26: the very first", new HeldCoats().bare(), 0);
        Kit.due("26: today", Kit.later(Kit.COURT, 7).bare(), 7);
        HeldCoats x = Kit.of("seat s 9;man m 0;coat a m 0 99;moths 0;holds 30;");
        x.lay(0, 0);
        Kit.due("26: when holds end", x.bare(), 30);
        x.days(29);
        Kit.due("26: from now on", x.bare(), 30);
        x.days(1);
        Kit.due("26: today", x.bare(), 30);
        HeldCoats eaten = Kit.of("seat s 9;man m 0;coat a m 0 5;");
        eaten.lay(0, 0);
        Kit.due("26: when it is eaten", eaten.bare(), 5);
        HeldCoats summer = Kit.of("seat s 9;man m 0;coat a m 0 99;cold 0 5;cold 7 4;summer 5;holds 9;");
        summer.lay(0, 0);
        Kit.due("26: when it is SUMMER", summer.bare(), 7);
        for (int day : new int[] {369, 370, 371, 399}) {
            HeldCoats y = Kit.later("seat s 9;man m 0;coat a m 0 99;moths 0;holds 30;", day);
            y.lay(0, 0);
            Kit.due("26: by DAY 399, from " + day, y.bare(), day == 369 ? 399 : NONE);
        }
        Kit.due("26: DAY 399 itself", Kit.later(Kit.COURT, 399).bare(), 399);
        Kit.due("26: none is left", Kit.later(Kit.COURT, 400).bare(), NONE);
        // a bare one that was does not count
        HeldCoats z = Kit.later("seat s 9;man m 0;coat a m 0 99;moths 0;holds 5;", 3);
        z.lay(0, 0);
        Kit.due("9: the first so far", z.now(5), 0);
        Kit.due("26: from now on", z.bare(), 8);
    }

    private static void rulesBounds() {
        String text = "seat s 9;seat t 8;man m 0;man n 0;coat a m 0 6;coat b n 0 99;cold 0 5;cold 2 4;cold 4 5;summer 5;holds 30;";
        HeldCoats x = Kit.of(text);
        for (int n : FAR) {
            Kit.due("27: no such one", x.rules(n), NONE);
        }
        Kit.due("27: one MAN too many", x.rules(2), NONE);
        Kit.due("27: never", x.rules(0), NONE);
        Kit.due("27: none in an empty CAPITAL", new HeldCoats().rules(0), NONE);
        x.lay(0, 0);
        x.lay(1, 1);
        Kit.due("27: today", x.rules(0), 0);
        Kit.due("27: when the other is eaten", x.rules(1), 6);
        x.days(2);
        Kit.due("27: not in SUMMER", x.rules(0), 4);
        x.days(2);
        Kit.due("27: today", x.rules(0), 4);
        x.days(2);
        Kit.due("27: no more", x.rules(0), NONE);
        Kit.due("27: what was does not count", x.rules(1), 6);
        HeldCoats last = Kit.full();
        last.lay(7, 7);
        Kit.due("27: the last MAN", last.rules(5), 0);
        Kit.due("27: one too many", last.rules(6), NONE);
        for (int day = 398; day <= 400; day++) {
            HeldCoats y = Kit.later("seat s 9;seat t 8;man m 0;man n 0;coat a m 0 1;coat b n 0 99;", day);
            y.lay(0, 0);
            y.lay(1, 1);
            Kit.due("27: today, from " + day, y.rules(0), day == 400 ? NONE : day);
            Kit.due("27: tomorrow, from " + day, y.rules(1), day == 398 ? 399 : NONE);
        }
    }

    private static void harmBounds() {
        HeldCoats x = Kit.of("seat s 9;man m 0;coat a m 2 99;cold 0 3;cold 1 4;cold 59 5;cold 60 40;holds 1;");
        for (int n : new int[] {0, -1, 61, 62, Integer.MIN_VALUE, Integer.MAX_VALUE}) {
            Kit.due("28: no such DAYS", x.harm(0, n), NONE);
        }
        for (int m : FAR) {
            Kit.due("28: no such MAN", x.harm(m, 1), NONE);
        }
        Kit.due("28: one MAN too many", x.harm(1, 1), NONE);
        Kit.due("28: one DAY", x.harm(0, 1), 1);
        Kit.due("28: two", x.harm(0, 2), 5);
        Kit.due("28: 59", x.harm(0, 59), 1 + 58 * 4);
        Kit.due("28: sixty", x.harm(0, 60), 1 + 58 * 4 + 9);
        x.days(1);
        Kit.due("28: more, not what was", x.harm(0, 1), 4);
        x.lay(0, 0);
        Kit.due("28: nothing is done: it does not come back", x.harm(0, 3), 48);
        Kit.due("28: the last MAN", Kit.full().harm(5, 1), 36);
        Kit.due("28: one too many", Kit.full().harm(6, 1), NONE);
        for (int day : new int[] {340, 341, 399, 400}) {
            Kit.due("28: till all are over, from " + day, Kit.later("man m 0;cold 0 2;", day).harm(0, 60), Math.min(60, 400 - day) * 4);
        }
    }

    private static void hooksBounds() {
        HeldCoats x = Kit.court();
        Kit.due("29: no bytes", Kit.hooks(x), NONE);
        Kit.due("29: one too few", Kit.hooks(x, 9, 9), NONE);
        Kit.due("29: as many as SEATS", Kit.hooks(x, 9, 9, 9), 1);
        Kit.due("29: one too many", Kit.hooks(x, 9, 9, 9, 9), NONE);
        for (int b = 0; b < 256; b++) {
            HeldCoats y = Kit.court();
            Kit.due("29: byte " + b, Kit.hooks(y, 9, b, 9), b == 0 ? 2 : b == 1 || b == 2 || b == 9 ? 1 : NONE);
            Kit.due("29: the tape is empty then", y.count(7), 0);
            Kit.due("30: by it", y.surely(), b == 1 ? 4 : b == 2 ? 8 : b == 0 || b == 9 ? 0 : NONE);
        }
        HeldCoats full = Kit.full();
        Kit.due("29: the last MAN", Kit.hooks(full, 9, 9, 9, 9, 9, 9, 5, 5), 2);
        Kit.due("30: both", full.surely(), 32 + 128);
        Kit.due("29: one MAN too many", Kit.hooks(full, 9, 9, 9, 9, 9, 9, 5, 6), NONE);
        Kit.due("29: seven bytes", Kit.hooks(full, 9, 9, 9, 9, 9, 9, 9), NONE);
        Kit.due("29: nine bytes", Kit.hooks(full, 9, 9, 9, 9, 9, 9, 9, 9, 9), NONE);
        Kit.due("29: no SEATS, no bytes", Kit.hooks(Kit.of("man m 0;coat a m 0 1;")), NONE);
        Kit.due("29: no SEATS, a byte", Kit.hooks(Kit.of("man m 0;coat a m 0 1;"), 9), NONE);
        Kit.due("29: no MEN", Kit.hooks(Kit.of("seat s 1;"), 0), NONE);
        Kit.due("29: no MEN, none lay", Kit.hooks(Kit.of("seat s 1;"), 9), 1);
        Kit.due("29: no COATS", Kit.hooks(Kit.of("seat s 1;man m 0;"), 0), 0);
    }

    private static void hooksWays() {
        HeldCoats x = Kit.of("seat s 1;seat t 1;seat u 1;man m 0;man n 0;coat a m 0 1;coat b m 0 9;coat c m 0 9;coat d n 0 9;");
        Kit.due("29: all of his, in each order", Kit.hooks(x, 0, 0, 0), 6);
        Kit.due("30: all", x.surely(), 7);
        Kit.due("31: the other", x.never(), 8);
        Kit.due("29: one less than he has", Kit.hooks(x, 0, 1, 0), 6);
        Kit.due("30: the other's", x.surely(), 8);
        Kit.due("31: none", x.never(), 0);
        Kit.due("29: one more than he has", Kit.hooks(x, 1, 1, 9), 0);
        Kit.due("30: by the latest above 0", x.surely(), 8);
        Kit.due("31: by the latest above 0", x.never(), 0);
        Kit.due("29: not as told", Kit.hooks(x, 2, 9, 9), NONE);
        Kit.due("30: by the latest above 0", x.surely(), 8);
        Kit.due("29: none lay", Kit.hooks(x, 9, 9, 9), 1);
        Kit.due("30: none", x.surely(), 0);
        Kit.due("31: all", x.never(), 15);
        // of all that are told: eaten ones, kept ones, lent ones, too
        x.lay(0, 0);
        x.days(1);
        x.keep(1);
        x.lend(3, 0);
        Kit.due("29: of all that are told", Kit.hooks(x, 0, 0, 0), 6);
        Kit.due("29: each his whose it is", Kit.hooks(x, 1, 9, 9), 1);
    }

    private static void roundsBounds() {
        rounds(new HeldCoats(), 1, 5);
        // CHILL by itself above the price, not at it
        rounds(Kit.of("man m 0;cold 0 2;"), 1, 5);
        rounds(Kit.of("man m 0;cold 0 3;"), 5, 9);
        rounds(Kit.of("man m 0;man n 1;cold 0 3;"), 5, 9);
        // REST is seen by the last ROUND that may be, or not
        rounds(Kit.of("man m 0;cold 0 8;"), 60, 64);
        rounds(Kit.of("man m 0;cold 0 9;"), 60, 65);
        rounds(Kit.of("man m 0;cold 0 40;"), 60, 65);
        // 1 less, 0 at least
        HeldCoats x = Kit.of("man m 0;man n 0;man o 0;coat a m 0 9;coat b n 0 9;coat c o 0 9;cold 0 1;");
        rounds(x, 1, 5);
        x.keep(0);
        rounds(x, 60, 1);
        x.keep(1);
        x.keep(2);
        rounds(x, 6, 0);
        HeldCoats none = Kit.of("man m 0;coat a m 0 9;");
        none.keep(0);
        rounds(none, 6, 0);
        HeldCoats like = Kit.of("man m 0;coat a m 0 9;cold 0 2;");
        like.keep(0);
        rounds(like, 3, 3);
        HeldCoats still = Kit.of("man m 0;coat a m 0 9;cold 0 3;");
        still.keep(0);
        rounds(still, 1, 5);
        // it begins at 5 again, and counts what is so now
        HeldCoats y = Kit.court();
        rounds(y, 21, 25);
        rounds(y, 21, 25);
        y.lay(2, 0);
        Kit.due("33: by the latest rounds()", y.price(), 25);
        rounds(y, 60, 65);
        // the last MAN counts
        rounds(Kit.of("man a 20;man b 20;man c 20;man d 20;man e 20;man f 17;cold 0 20;"), 5, 9);
    }

    private static void rounds(HeldCoats x, int rounds, int price) {
        Kit.due("32: rounds", x.rounds(), rounds);
        Kit.due("33: price", x.price(), price);
    }

    private static void drawnBounds() {
        for (int n : new int[] {0, -1, 61, 62, Integer.MIN_VALUE, Integer.MAX_VALUE}) {
            HeldCoats x = Kit.court();
            Kit.due("34: not as told", x.drawn(n, 1), NONE);
            Kit.due("34: none goes by", x.now(0), 0);
            Kit.due("15: no act", x.undo(), NONE);
        }
        for (int n : new int[] {1, 2, 59, 60}) {
            HeldCoats x = Kit.court();
            Kit.due("34: how many", x.drawn(n, 1), n);
            Kit.due("34: how many", x.now(0), n);
            Kit.due("15: one act", x.undo(), 0);
            Kit.due("15: undone", x.now(0), 0);
        }
        HeldCoats none = Kit.of("seat s 1;man m 0;");
        Kit.due("34: no COATS", none.drawn(1, 1), NONE);
        Kit.due("34: none goes by", none.now(0), 0);
        Kit.due("34: no COATS", new HeldCoats().drawn(60, 1), NONE);
        Kit.due("34: one COAT", Kit.of("man m 0;coat a m 0 1;").drawn(60, 1), 60);
        for (int day : new int[] {340, 341, 399, 400}) {
            HeldCoats x = Kit.later(Kit.COURT, day);
            Kit.due("34: those that are left, from " + day, x.drawn(60, 1), Math.min(60, 400 - day));
            Kit.due("9: over", x.now(0), 400);
            int acts = (day + 59) / 60;
            Kit.due("15: above 0 it is an act", x.undo(), day == 400 ? acts - 1 : acts);
        }
    }

    /** The seeds are chosen by what their first draws are, which is told here by the document's own formula. */
    private static void drawnByDraws() {
        for (int what = 0; what < 6; what++) {
            for (int s = 0; s < 3; s++) {
                int seed = seedOf(what, s, 3);
                HeldCoats x = Kit.of("seat s 1;seat t 1;seat u 1;man m 0;coat a m 0 99;");
                x.drawn(1, seed);
                Kit.due("34: worn, a draw of " + what, x.coat(0, 3), what == 0 ? 10 + s : what == 2 ? 20 : 0);
                HeldCoats kept = Kit.of("seat s 1;seat t 1;seat u 1;man m 0;coat a m 0 99;");
                kept.keep(0);
                kept.drawn(1, seed);
                Kit.due("34: kept, a draw of " + what, kept.coat(0, 3), what == 1 ? 0 : 20);
                HeldCoats lent = Kit.of("seat s 1;seat t 1;seat u 1;man m 0;man n 0;coat a m 0 99;");
                lent.lend(0, 1);
                lent.lay(0, s);
                lent.drawn(1, seed);
                Kit.due("34: lent and laid: he whose it is wears it, a draw of " + what, lent.coat(0, 3), what == 1 ? 0 : 10 + s);
            }
        }
        // no draw of SEATS without SEATS: the next coat has the next draw
        for (int seed = 0; seed < 40; seed++) {
            HeldCoats x = Kit.of("man m 0;coat a m 0 99;coat b m 0 99;");
            x.drawn(1, seed);
            int first = next(seed);
            int second = next(first);
            Kit.due("34: without SEATS, seed " + seed, x.coat(1, 3), draw(second, 6) == 2 ? 20 : 0);
            // a draw of SEATS even for one that cannot be laid
            HeldCoats y = Kit.of("seat s 1;seat t 1;man m 0;coat a m 0 99;coat b m 0 99;");
            y.keep(0);
            y.drawn(1, seed);
            int mine = draw(first, 6) == 0 ? next(second) : second;
            int want = draw(mine, 6) == 0 ? 10 + draw(next(mine), 2) : draw(mine, 6) == 2 ? 20 : 0;
            Kit.due("34: with SEATS, seed " + seed, y.coat(1, 3), want);
        }
        // wrapping
        for (int seed : new int[] {Integer.MAX_VALUE, Integer.MIN_VALUE, -1, 0}) {
            HeldCoats x = Kit.of("seat s 1;seat t 1;seat u 1;man m 0;coat a m 0 99;");
            x.drawn(1, seed);
            int one = next(seed);
            Kit.due("34: seed " + seed, x.coat(0, 3), draw(one, 6) == 0 ? 10 + draw(next(one), 3) : draw(one, 6) == 2 ? 20 : 0);
        }
    }

    private static int next(int x) {
        return x * 1103515245 + 12345;
    }

    private static int draw(int x, int n) {
        return (x >>> 8) % n;
    }

    private static int seedOf(int what, int seat, int seats) {
        for (int seed = 0; ; seed++) {
            if (draw(next(seed), 6) == what && draw(next(next(seed)), seats) == seat) {
                return seed;
            }
        }
    }

    private static void oddsBounds() {
        HeldCoats x = Kit.court();
        for (int n : new int[] {0, -1, 31, 32, Integer.MIN_VALUE, Integer.MAX_VALUE}) {
            Kit.due("35: no such seeds", x.odds(0, n, 1), NONE);
        }
        for (int m : FAR) {
            Kit.due("35: no such MAN", x.odds(m, 1, 1), NONE);
        }
        Kit.due("35: one MAN too many", x.odds(3, 1, 1), NONE);
        Kit.due("35: no COATS", Kit.of("seat s 1;man m 0;").odds(0, 1, 1), NONE);
        Kit.due("35: no COATS, no MEN", new HeldCoats().odds(0, 1, 1), NONE);
        Kit.due("35: the last MAN", Kit.full().odds(5, 1, 1) >= 0, true);
        Kit.due("35: one too many", Kit.full().odds(6, 1, 1), NONE);
        HeldCoats y = Kit.of("seat s 1;man m 0;coat a m 0 99;holds 30;");
        y.lay(0, 0);
        Kit.due("35: he RULES by each, one", y.odds(0, 1, 1) + (seedsThatTakeAtOnce(1, 1)), 1);
        Kit.due("35: he RULES by each, thirty", y.odds(0, 30, 1) >= 30 - seedsThatTakeAtOnce(1, 30), true);
        for (int day : new int[] {380, 381, 399, 400}) {
            HeldCoats z = Kit.later("seat s 1;man m 0;coat a m 0 99;", day);
            Kit.due("35: till all are over, from " + day, z.odds(0, 30, -15), ruledBy(day, -15, 30));
            Kit.due("35: nothing goes by", z.now(0), day);
        }
        HeldCoats wrap = Kit.of("seat s 1;man m 0;coat a m 0 99;");
        Kit.due("35: x and 1, .. wraps", wrap.odds(0, 30, Integer.MAX_VALUE - 3), ruledBy(0, Integer.MAX_VALUE - 3, 30));
        Kit.due("35: the first seed alone", wrap.odds(0, 1, 5), ruledBy(0, 5, 1));
        for (int seed = 0; seed < 60; seed += 30) {
            Kit.due("35: of twenty DAYS", Kit.of("seat s 1;man m 0;coat a m 0 99;cold 0 1;cold 19 5;cold 20 0;summer 5;").odds(0, 30, seed), onTheTwentieth(seed, 30));
        }
    }

    /** By how many seeds the coat is taken off its SEAT on the first DAY, ahead of noon. */
    private static int seedsThatTakeAtOnce(int seed, int n) {
        int by = 0;
        for (int k = 0; k < n; k++) {
            by += draw(next(seed + k), 6) == 1 ? 1 : 0;
        }
        return by;
    }

    private static int ruledBy(int day, int seed, int n) {
        int by = 0;
        for (int k = 0; k < n; k++) {
            HeldCoats x = Kit.later("seat s 1;man m 0;coat a m 0 99;", day);
            x.drawn(20, seed + k);
            by += x.man(0, 6) > 0 ? 1 : 0;
        }
        return by;
    }

    private static int onTheTwentieth(int seed, int n) {
        int by = 0;
        for (int k = 0; k < n; k++) {
            HeldCoats x = Kit.of("seat s 1;man m 0;coat a m 0 99;");
            int before = 0;
            x.drawn(19, seed + k);
            before = x.man(0, 6);
            x.undo();
            x.drawn(20, seed + k);
            by += x.man(0, 6) > before ? 1 : 0;
        }
        return by;
    }

    private static void aheadOfAny() {
        HeldCoats x = Kit.court();
        Kit.due("17: NONE ahead of any", x.laid(), NONE);
        Kit.due("19: NONE ahead of any", x.turns(), NONE);
        Kit.due("30: NONE ahead of any", x.surely(), NONE);
        Kit.due("31: NONE ahead of any", x.never(), NONE);
        Kit.due("33: NONE ahead of any", x.price(), NONE);
        x.best(0, 1000);
        x.best(1, 24);
        x.share(0, 0, 0, 1);
        Kit.hooks(x, 9);
        Kit.hooks(x, 1, 1, 1);
        Kit.due("17: a best() of NONE is none", x.laid(), NONE);
        Kit.due("19: a share() of NONE is none", x.turns(), NONE);
        Kit.due("30: a hooks() of NONE or 0 is none", x.surely(), NONE);
        Kit.due("31: a hooks() of NONE or 0 is none", x.never(), NONE);
    }

    /** What was told last stays, whatever is so now. */
    private static void whatStays() {
        HeldCoats x = Kit.busy();
        Kit.due("17: laid", x.laid(), 1);
        Kit.due("19: turns", x.turns(), 7);
        Kit.due("30: surely", x.surely(), 4);
        Kit.due("31: never", x.never(), 8);
        Kit.due("33: price", x.price(), 25);
        String last = Kit.last(x);
        x.best(0, 24);
        x.best(3, 5);
        x.share(0, 1, 4, 1);
        x.wear(0, 0);
        x.days(60);
        Kit.due("16 to 33: stay", Kit.last(x).equals(last), true);
        Kit.hooks(x, 9);
        Kit.due("16 to 33: stay", Kit.last(x).equals(last), true);
        Kit.capital(x, "seat z 1;");
        Kit.due("17: by the latest best(), though the CAPITAL is new", x.laid(), 1);
        Kit.due("19: by the latest share(), though the CAPITAL is new", x.turns(), 7);
        Kit.due("30: by the latest hooks(), though the CAPITAL is new", x.surely(), 4);
        Kit.due("31: by the latest hooks(), though the CAPITAL is new", x.never(), 8);
        Kit.due("33: by the latest rounds(), though the CAPITAL is new", x.price(), 25);
    }

    private static void questionsLeaveAll() {
        Kit.leavesState("16: best", x -> x.best(0, 49), 20);
        Kit.leavesAll("16: best of NONE", x -> x.best(0, 24), NONE);
        Kit.leavesState("18: share", x -> x.share(0, 1, 0, 1), 25);
        Kit.leavesAll("18: share of NONE", x -> x.share(0, 1, 0, 31), NONE);
        Kit.leavesAll("20: ahead", x -> x.ahead(3), 0);
        Kit.leavesAll("21: queue", x -> x.queue(0), 3);
        Kit.leavesAll("22: bribes", x -> x.bribes(8), 0);
        Kit.leavesAll("22: bribes of NONE", x -> x.bribes(1), NONE);
        Kit.leavesAll("23: frost", x -> x.frost(0, 1), 0);
        Kit.leavesAll("24: frostAt", x -> x.frostAt(0, 1), 29);
        Kit.leavesAll("25: word", x -> x.word(60), 0);
        Kit.leavesAll("26: bare", x -> x.bare(), 3);
        Kit.leavesAll("27: rules", x -> x.rules(0), 2);
        Kit.leavesAll("28: harm", x -> x.harm(2, 60), 8);
        Kit.leavesState("29: hooks", x -> Kit.hooks(x, 2, 9, 9), 1);
        Kit.leavesAll("29: hooks of 0", x -> Kit.hooks(x, 2, 9, 2), 0);
        Kit.leavesAll("29: hooks of NONE", x -> Kit.hooks(x, 2, 9), NONE);
        Kit.leavesState("32: rounds", x -> x.rounds(), 60);
        Kit.leavesAll("34: drawn of NONE", x -> x.drawn(61, 1), NONE);
        Kit.leavesAll("35: odds", x -> x.odds(0, 30, 1) >= 0 ? 0 : NONE, 0);
        Kit.leavesAll("35: odds of NONE", x -> x.odds(0, 31, 1), NONE);
    }
}
