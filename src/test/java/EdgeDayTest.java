/** The bounds of the document's second section, and of promises 6 to 15: at each and one beyond, and what stays as it is. */
public final class EdgeDayTest {
    private static final int NONE = HeldCoats.NONE;
    private static final int[] FAR = {-1, -2, 9, 10, 20, 30, 31, 32, 1000, Integer.MIN_VALUE, Integer.MAX_VALUE};

    public static void main(String[] args) {
        cold();
        summer();
        atFirst();
        chill();
        holding();
        noSuchOnes();
        atTheLast();
        notToLay();
        notToWear();
        notToLend();
        notToKeep();
        ruling();
        harm();
        moths();
        holds();
        queueing();
        daysOfACall();
        lastDay();
        beyondTheLastDay();
        bareDays();
        undoneAtMost();
        undoneOrNot();
        whatUndoLeaves();
        refusedOnesLeaveAll();
        Kit.finish("EdgeDayTest");
    }

    private static void cold() {
        HeldCoats x = Kit.of("cold 5 9;cold 2 7;cold 8 0;");
        int[] want = {0, 0, 7, 7, 7, 9, 9, 9, 0, 0};
        for (int day = 0; day < want.length; day++) {
            Kit.due("9: COLD of DAY " + day, x.now(1), want[day]);
            x.days(1);
        }
        Kit.due("9: 0 without", new HeldCoats().now(1), 0);
        Kit.due("9: from DAY 0", Kit.of("cold 0 40;").now(1), 40);
    }

    private static void summer() {
        for (int cold = 0; cold <= 3; cold++) {
            for (int summer = 0; summer <= 3; summer++) {
                HeldCoats x = Kit.of("cold 0 " + cold + ";summer " + summer + ";seat s 1;man m 0;coat c m 0 9;");
                x.lay(0, 0);
                String what = " in cold " + cold + ", summer " + summer;
                Kit.due("9: SUMMER" + what, x.now(2), cold < summer ? 1 : 0);
                Kit.due("6: who HOLDS it" + what, x.seat(0, 2), cold < summer ? NONE : 0);
                Kit.due("7: SEATS held" + what, x.man(0, 4), cold < summer ? 0 : 1);
                Kit.due("7: WORTH held" + what, x.man(0, 5), cold < summer ? 0 : 1);
                Kit.due("9: who would RULE" + what, x.now(3), cold < summer ? NONE : 0);
                x.days(1);
                Kit.due("7: RULED" + what, x.man(0, 6), cold < summer ? 0 : 1);
                Kit.due("9: BARE DAYS" + what, x.now(4), cold < summer ? 1 : 0);
            }
        }
        Kit.due("9: without cold it is SUMMER below 1", Kit.of("summer 1;").now(2), 1);
        Kit.due("9: without both it is not", Kit.of("seat s 1;").now(2), 0);
        // the coat lies on, is eaten and its days go on in SUMMER, too
        HeldCoats y = Kit.of("summer 40;seat s 1;man m 0;coat c m 0 3;coat d m 0 9;holds 2;seat t 1;");
        y.lay(0, 0);
        y.lay(1, 1);
        y.days(1);
        Kit.due("8: CLOTH in SUMMER", y.coat(0, 2), 2);
        Kit.due("6: DAYS in SUMMER", y.seat(0, 3), 1);
        y.days(1);
        Kit.due("9: holds end in SUMMER", y.now(6), 2);
    }

    private static void atFirst() {
        HeldCoats x = Kit.full();
        int[] owner = {0, 1, 2, 3, 4, 5, 0, 5};
        int[] cloth = {1, 99, 50, 50, 50, 50, 50, 50};
        for (int c = 0; c < 8; c++) {
            Kit.due("8: worn by whose it is", x.coat(c, 3), owner[c]);
            Kit.due("8: its USER", x.coat(c, 4), owner[c]);
            Kit.due("8: its CLOTH", x.coat(c, 2), cloth[c]);
        }
        int[] worn = {65, 2, 4, 8, 16, 160};
        for (int m = 0; m < 6; m++) {
            Kit.due("7: no HARM", x.man(m, 2), 0);
            Kit.due("7: COATS that he wears", x.man(m, 3), worn[m]);
            Kit.due("7: no SEATS", x.man(m, 4), 0);
            Kit.due("7: no WORTH", x.man(m, 5), 0);
            Kit.due("7: never RULED", x.man(m, 6), 0);
            Kit.due("7: his", x.man(m, 7), worn[m]);
        }
        for (int s = 0; s < 8; s++) {
            Kit.due("6: bare", x.seat(s, 1), NONE);
            Kit.due("6: held by nobody", x.seat(s, 2), NONE);
            Kit.due("6: 0 DAYS", x.seat(s, 3), 0);
        }
        int[] now = {0, 40, 0, NONE, 0, NONE, 0, 0};
        for (int what = 0; what < 8; what++) {
            Kit.due("9: now(" + what + ")", x.now(what), now[what]);
        }
        Kit.due("15: nothing to undo", x.undo(), NONE);
    }

    private static void chill() {
        for (int cold = 9; cold <= 12; cold++) {
            HeldCoats x = Kit.of("man m 4;man o 0;coat c m 3 9;coat d m 2 9;coat e o 0 9;cold 0 " + cold + ";");
            Kit.due("7: CHILL at " + cold, x.man(0, 1), Math.max(0, cold - 9));
            Kit.due("7: of the other at " + cold, x.man(1, 1), cold);
            x.lend(1, 1);
            x.keep(1);
            Kit.due("7: what is kept does not warm", x.man(0, 1), cold - 7);
            x.wear(1, 1);
            Kit.due("7: it warms whom it is worn by", x.man(1, 1), cold - 2);
            x.days(1);
            Kit.due("7: HARM by itself", x.man(0, 2), (cold - 7) * (cold - 7));
            Kit.due("7: HARM by itself", x.man(1, 2), (cold - 2) * (cold - 2));
        }
        HeldCoats y = Kit.of("man m 0;coat c m 0 9;cold 0 40;");
        Kit.due("7: the most CHILL", y.man(0, 1), 40);
        y.days(1);
        Kit.due("7: by itself", y.man(0, 2), 1600);
        HeldCoats z = Kit.of("man m 20;coat c m 20 9;coat d m 20 9;cold 0 40;");
        Kit.due("7: 0 at least", z.man(0, 1), 0);
        z.days(1);
        Kit.due("7: no HARM below 0", z.man(0, 2), 0);
    }

    private static void holding() {
        HeldCoats x = Kit.court();
        x.lend(2, 0);
        x.keep(2);
        x.wear(0, 2);
        x.lay(2, 0);
        Kit.due("6: whose coat it is HOLDS it, whoever laid it", x.seat(0, 2), 1);
        Kit.due("7: not he who laid it", x.man(0, 4), 0);
        Kit.due("7: not its USER", x.man(0, 5), 0);
        Kit.due("7: whose it is", x.man(1, 4), 1);
        Kit.due("7: whose it is", x.man(1, 5), 50);
        Kit.due("9: whose it is", x.now(3), 1);
    }

    private static void noSuchOnes() {
        for (String text : new String[] {"", Kit.COURT, Kit.FULL}) {
            HeldCoats x = Kit.of(text);
            int seats = x.count(0);
            int men = x.count(1);
            int coats = x.count(2);
            for (int what = 0; what < 8; what++) {
                int w = what;
                Kit.due("6: one SEAT too many", x.seat(seats, what), NONE);
                Kit.refused("7: one MAN too many", () -> x.man(men, w));
                Kit.refused("8: one COAT too many", () -> x.coat(coats, w));
                Kit.refused("7: a MAN below 0", () -> x.man(-1, w));
                Kit.refused("8: a COAT below 0", () -> x.coat(-1, w));
                Kit.due("6: a SEAT below 0", x.seat(-1, what), NONE);
            }
            Kit.due("10: one COAT too many", x.lay(coats, 0), NONE);
            Kit.due("10: one SEAT too many", x.lay(0, seats), NONE);
            Kit.due("11: one MAN too many", x.wear(men, 0), NONE);
            Kit.due("11: one COAT too many", x.wear(0, coats), NONE);
            Kit.due("12: one COAT too many", x.lend(coats, 0), NONE);
            Kit.due("12: one MAN too many", x.lend(0, men), NONE);
            Kit.due("13: one COAT too many", x.keep(coats), NONE);
            for (int n : FAR) {
                Kit.due("6: no such SEAT", x.seat(n, 0), NONE);
                Kit.due("6: no such what", x.seat(0, n), NONE);
                Kit.refused("7: no such MAN", () -> x.man(n, 0));
                Kit.refused("7: no such what", () -> x.man(0, n));
                Kit.refused("8: no such COAT", () -> x.coat(n, 0));
                Kit.refused("8: no such what", () -> x.coat(0, n));
                Kit.due("9: no such what", x.now(n), NONE);
                Kit.due("10: no such COAT", x.lay(n, 0), NONE);
                Kit.due("10: no such SEAT", x.lay(0, n), NONE);
                Kit.due("11: no such MAN", x.wear(n, 0), NONE);
                Kit.due("11: no such COAT", x.wear(0, n), NONE);
                Kit.due("12: no such COAT", x.lend(n, 0), NONE);
                Kit.due("12: no such MAN", x.lend(0, n), NONE);
                Kit.due("13: no such COAT", x.keep(n), NONE);
            }
            Kit.due("9: no what 8", x.now(8), NONE);
            Kit.due("15: none of these was done", x.undo(), NONE);
        }
        HeldCoats y = Kit.court();
        Kit.due("6: what 3 is one", y.seat(2, 3), 0);
        Kit.due("6: what 4 is none", y.seat(2, 4), NONE);
        Kit.due("7: what 7 is one", y.man(2, 7), 8);
        Kit.refused("7: what 8 is none", () -> y.man(2, 8));
        Kit.due("8: what 4 is one", y.coat(3, 4), 2);
        Kit.refused("8: what 5 is none", () -> y.coat(3, 5));
        Kit.due("9: what 7 is one", y.now(7), 0);
    }

    /** The last SEAT, MAN and COAT of as many as there may be do all that others do. */
    private static void atTheLast() {
        HeldCoats x = Kit.full();
        Kit.due("10: the last ones", x.lay(7, 7), 0);
        Kit.due("6: COAT", x.seat(7, 1), 7);
        Kit.due("6: who", x.seat(7, 2), 5);
        Kit.due("7: SEATS", x.man(5, 4), 128);
        Kit.due("7: WORTH", x.man(5, 5), 99);
        Kit.due("8: where", x.coat(7, 3), 17);
        Kit.due("9: who RULES", x.now(3), 5);
        Kit.due("14: a DAY", x.days(1), 1);
        Kit.due("6: DAYS", x.seat(7, 3), 1);
        Kit.due("7: RULED", x.man(5, 6), 1);
        Kit.due("7: HARM", x.man(5, 2), 14 * 14);
        Kit.due("11: the last ones", x.wear(5, 7), 0);
        Kit.due("12: the last ones", x.lend(0, 5), 0);
        Kit.due("8: USER", x.coat(0, 4), 5);
        for (int c = 7; c >= 0; c--) {
            Kit.due("13: all are kept", x.keep(c), 0);
        }
        Kit.due("9: in the cloakroom", x.now(6), 8);
        for (int k = 0; k < 8; k++) {
            Kit.due("21: the queue", x.queue(k), 7 - k);
            Kit.due("20: ahead", x.ahead(k), 7 - k);
        }
        Kit.due("21: no ninth", x.queue(8), NONE);
        Kit.due("11: out of it", x.wear(5, 0), 0);
        Kit.due("9: seven", x.now(6), 7);
        Kit.due("11: his own, the queue's first", x.wear(5, 7), 0);
        Kit.due("20: all move up", x.ahead(1), 5);
        Kit.due("21: all move up", x.queue(0), 6);
        Kit.due("21: none behind", x.queue(6), NONE);
    }

    private static void notToLay() {
        HeldCoats x = places();
        Kit.due("10: 1, it lies elsewhere", x.lay(0, 1), 1);
        Kit.due("10: 1, it lies there: the least", x.lay(0, 0), 1);
        Kit.due("10: 1, it is kept", x.lay(1, 1), 1);
        Kit.due("10: 1, it is kept and a coat lies there", x.lay(1, 0), 1);
        Kit.due("10: 1, it is eaten", x.lay(2, 1), 1);
        Kit.due("10: 1, it is eaten and a coat lies there", x.lay(2, 0), 1);
        Kit.due("10: 2, a coat lies there", x.lay(3, 0), 2);
        Kit.due("10: 0, worn by whose it is", x.lay(3, 1), 0);
        Kit.due("10: 0, worn by another", x.lay(4, 2), 0);
        x.wear(0, 0);
        Kit.due("10: 0, bare again", x.lay(0, 0), 0);
    }

    private static void notToWear() {
        HeldCoats x = places();
        Kit.due("11: 1, by himself", x.wear(0, 3), 1);
        Kit.due("11: 1, by another, though it is his", x.wear(0, 4), 1);
        Kit.due("11: 1, by its USER himself", x.wear(1, 4), 1);
        Kit.due("11: 1, worn, and neither: the least", x.wear(2, 3), 1);
        Kit.due("11: 1, eaten, though it is his", x.wear(0, 2), 1);
        Kit.due("11: 1, eaten, and neither: the least", x.wear(2, 2), 1);
        Kit.due("11: 2, it lies, neither", x.wear(1, 0), 2);
        Kit.due("11: 2, it is kept, neither", x.wear(1, 1), 2);
        Kit.due("11: 0, off the SEAT", x.wear(0, 0), 0);
        Kit.due("11: 0, out of the cloakroom", x.wear(0, 1), 0);
        x.keep(4);
        Kit.due("11: 0, its USER", x.wear(1, 4), 0);
        x.keep(4);
        Kit.due("11: 0, his, though another is its USER", x.wear(0, 4), 0);
        x.keep(4);
        x.lend(4, 2);
        Kit.due("11: 2, its USER no more", x.wear(1, 4), 2);
        Kit.due("11: 0, its USER now", x.wear(2, 4), 0);
        x.lend(4, 0);
        Kit.due("8: he wears it yet, though its USER no more", x.coat(4, 3), 2);
    }

    private static void notToLend() {
        HeldCoats x = places();
        Kit.due("12: 1, eaten", x.lend(2, 1), 1);
        Kit.due("12: 1, eaten and he is its USER: the least", x.lend(2, 0), 1);
        Kit.due("12: 2, he is its USER, it is his", x.lend(0, 0), 2);
        Kit.due("12: 2, he is its USER by lending", x.lend(4, 1), 2);
        Kit.due("12: 0, what lies", x.lend(0, 2), 0);
        Kit.due("12: 0, what is kept", x.lend(1, 2), 0);
        Kit.due("12: 0, what is worn", x.lend(3, 2), 0);
        Kit.due("8: where it is stays", x.coat(0, 3), 10);
        Kit.due("8: where it is stays", x.coat(1, 3), 20);
        Kit.due("8: where it is stays", x.coat(3, 3), 0);
        Kit.due("12: 0, back to whose it is", x.lend(0, 0), 0);
        Kit.due("12: 2, there already", x.lend(0, 0), 2);
    }

    private static void notToKeep() {
        HeldCoats x = places();
        Kit.due("13: 1, it lies", x.keep(0), 1);
        Kit.due("13: 1, it is kept", x.keep(1), 1);
        Kit.due("13: 1, it is eaten", x.keep(2), 1);
        Kit.due("9: one as before", x.now(6), 1);
        Kit.due("13: 0, worn by whose it is", x.keep(3), 0);
        Kit.due("13: 0, worn by another", x.keep(4), 0);
        Kit.due("21: last in the queue", x.queue(2), 4);
        Kit.due("20: last in the queue", x.ahead(4), 2);
    }

    /** Coat 0 lies on seat 0, 1 is kept, 2 is eaten, 3 is worn by whose it is, 4 by man 1, who is its USER; all are man 0's. */
    private static HeldCoats places() {
        HeldCoats x = Kit.of("seat s 1;seat t 1;seat u 1;man m 0;man n 0;man o 0;coat a m 0 9;coat b m 0 9;coat c m 0 1;coat d m 0 9;coat e m 0 9;");
        x.lay(2, 0);
        x.days(1);
        Kit.due("8: eaten", x.coat(2, 3), 30);
        x.lay(0, 0);
        x.keep(1);
        x.lend(4, 1);
        x.keep(4);
        x.wear(1, 4);
        Kit.due("8: worn by the other", x.coat(4, 3), 1);
        return x;
    }

    private static void ruling() {
        HeldCoats x = Kit.of("seat s 5;seat t 3;seat u 2;seat v 1;man m 0;man n 0;man o 0;coat a o 0 9;coat b n 0 9;coat c n 0 9;coat d n 0 9;");
        Kit.due("9: nobody", x.now(3), NONE);
        x.lay(1, 1);
        Kit.due("9: he alone", x.now(3), 1);
        x.lay(0, 0);
        Kit.due("9: the most WORTH", x.now(3), 2);
        x.lay(2, 2);
        Kit.due("9: in all; of like ones the first", x.now(3), 1);
        x.days(1);
        Kit.due("7: he RULED", x.man(1, 6), 1);
        Kit.due("7: the like one did not", x.man(2, 6), 0);
        x.wear(1, 2);
        x.lay(2, 3);
        Kit.due("9: one less", x.now(3), 2);
        x.lay(3, 2);
        Kit.due("9: one more", x.now(3), 1);
        x.days(1);
        Kit.due("7: again", x.man(1, 6), 2);
        // at noon: a coat that goes on this very DAY counts yet
        HeldCoats y = Kit.of("seat s 5;man m 0;coat a m 0 1;coat b m 0 9;holds 1;");
        y.lay(0, 0);
        y.days(1);
        Kit.due("8: eaten", y.coat(0, 3), 30);
        Kit.due("7: RULED on that DAY", y.man(0, 6), 1);
        y.lay(1, 0);
        y.days(1);
        Kit.due("8: holds ended", y.coat(1, 3), 20);
        Kit.due("7: RULED on that DAY", y.man(0, 6), 2);
        Kit.due("9: nobody now", y.now(3), NONE);
        Kit.due("9: no BARE DAY so far", y.now(4), 0);
        // six of like WORTH: the first
        HeldCoats z = Kit.full();
        for (int c = 5; c >= 1; c--) {
            z.lay(c, c);
        }
        Kit.due("9: the worthiest seat of five", z.now(3), 5);
        z.wear(5, 5);
        z.wear(1, 1);
        z.lay(1, 5);
        Kit.due("9: the worthiest seat of four", z.now(3), 1);
    }

    private static void harm() {
        HeldCoats x = Kit.of("man m 0;man n 1;cold 0 3;cold 2 0;cold 3 1;");
        int[] first = {9, 18, 18, 19, 20};
        int[] other = {4, 8, 8, 8, 8};
        for (int day = 0; day < 5; day++) {
            x.days(1);
            Kit.due("7: HARM after DAY " + day, x.man(0, 2), first[day]);
            Kit.due("7: HARM after DAY " + day, x.man(1, 2), other[day]);
        }
    }

    private static void moths() {
        HeldCoats x = Kit.of("seat s 1;seat t 1;seat u 1;man m 0;coat a m 0 4;coat b m 0 5;coat c m 0 6;coat d m 0 1;moths 5;holds 30;");
        x.lay(0, 0);
        x.lay(1, 1);
        x.lay(2, 2);
        x.days(1);
        Kit.due("8: below 0 it is eaten", x.coat(0, 3), 30);
        Kit.due("8: at 0 it is eaten", x.coat(1, 3), 30);
        Kit.due("8: above 0 it is not", x.coat(2, 3), 12);
        Kit.due("8: eaten: 0", x.coat(0, 2), 0);
        Kit.due("8: eaten: 0", x.coat(1, 2), 0);
        Kit.due("8: 1 is left", x.coat(2, 2), 1);
        Kit.due("8: what is worn is not eaten", x.coat(3, 2), 1);
        Kit.due("9: eaten ones", x.now(7), 3);
        Kit.due("7: his", x.man(0, 7), 12);
        Kit.due("6: bare", x.seat(0, 1), NONE);
        x.keep(3);
        x.days(60);
        Kit.due("8: what is kept is not eaten", x.coat(3, 2), 1);
        Kit.due("9: gone for good", x.now(7), 7);
        HeldCoats y = Kit.of("seat s 1;man m 0;coat a m 0 1;moths 0;holds 30;");
        y.lay(0, 0);
        y.days(29);
        Kit.due("8: no moths", y.coat(0, 2), 1);
        Kit.due("8: it lies", y.coat(0, 3), 10);
        HeldCoats z = Kit.of("seat s 1;man m 0;coat a m 0 99;moths 9;holds 30;");
        z.lay(0, 0);
        z.days(10);
        Kit.due("8: 9 by 9", z.coat(0, 2), 9);
        z.days(1);
        Kit.due("8: eaten", z.coat(0, 3), 30);
    }

    private static void holds() {
        for (int holds : new int[] {1, 2, 9, 29, 30}) {
            HeldCoats x = Kit.of("seat s 1;man m 0;coat a m 0 99;moths 1;" + (holds == 9 ? "" : "holds " + holds + ";"));
            x.lay(0, 0);
            Kit.pass(x, holds - 1);
            Kit.due("8: it lies for one DAY less than " + holds, x.coat(0, 3), 10);
            Kit.due("6: DAYS", x.seat(0, 3), holds - 1);
            x.days(1);
            Kit.due("8: this one, too: " + holds, x.coat(0, 3), 20);
            Kit.due("6: bare", x.seat(0, 1), NONE);
            Kit.due("6: 0 for a bare one", x.seat(0, 3), 0);
            Kit.due("8: CLOTH", x.coat(0, 2), 99 - holds);
        }
        // eaten on the very DAY on which holds end
        HeldCoats y = Kit.of("seat s 1;man m 0;coat a m 0 3;holds 3;");
        y.lay(0, 0);
        y.days(3);
        Kit.due("8: eaten, not kept", y.coat(0, 3), 30);
        Kit.due("9: nobody in the cloakroom", y.now(6), 0);
        // days of another seat, or of another time, do not count
        HeldCoats z = Kit.of("seat s 1;seat t 1;man m 0;coat a m 0 99;coat b m 0 99;holds 3;");
        z.lay(0, 0);
        z.days(2);
        z.wear(0, 0);
        z.lay(0, 1);
        Kit.due("6: anew", z.seat(1, 3), 0);
        z.days(2);
        Kit.due("8: it lies yet", z.coat(0, 3), 11);
        z.wear(0, 0);
        z.lay(1, 1);
        Kit.due("6: another one's days", z.seat(1, 3), 0);
        z.lend(1, 0);
        z.days(2);
        Kit.due("6: lending leaves them", z.seat(1, 3), 2);
    }

    private static void queueing() {
        HeldCoats x = Kit.of("seat s 1;seat t 1;seat u 1;seat v 1;man m 0;coat a m 0 9;coat b m 0 9;coat c m 0 9;coat d m 0 9;coat e m 0 9;holds 2;");
        x.lay(3, 0);
        x.days(1);
        x.lay(2, 1);
        x.lay(0, 2);
        x.lay(1, 3);
        x.keep(4);
        x.days(1);
        Kit.due("21: kept ahead", x.queue(0), 4);
        Kit.due("21: last in the queue", x.queue(1), 3);
        Kit.due("21: no more yet", x.queue(2), NONE);
        x.days(1);
        for (int k = 0; k < 3; k++) {
            Kit.due("21: by numbers, not by SEATS", x.queue(2 + k), k);
        }
        Kit.due("9: all", x.now(6), 5);
        x.wear(0, 3);
        x.keep(3);
        Kit.due("21: last again", x.queue(4), 3);
        Kit.due("20: how many are ahead", x.ahead(3), 4);
    }

    private static void daysOfACall() {
        for (int n : new int[] {0, -1, 61, 62, Integer.MIN_VALUE, Integer.MAX_VALUE}) {
            HeldCoats x = Kit.court();
            Kit.due("14: not as told", x.days(n), NONE);
            Kit.due("14: none goes by", x.now(0), 0);
            Kit.due("15: no act", x.undo(), NONE);
        }
        for (int n : new int[] {1, 2, 59, 60}) {
            HeldCoats x = Kit.court();
            Kit.due("14: as many", x.days(n), n);
            Kit.due("14: as many", x.now(0), n);
            Kit.due("15: one act", x.undo(), 0);
        }
    }

    private static void lastDay() {
        HeldCoats x = Kit.later(Kit.COURT, 340);
        Kit.due("14: just as many are left", x.days(60), 60);
        Kit.due("9: all are over", x.now(0), 400);
        x.undo();
        x.days(1);
        Kit.due("14: one less is left", x.days(60), 59);
        Kit.due("9: all are over", x.now(0), 400);
        HeldCoats y = Kit.later("man m 0;cold 0 2;", 398);
        Kit.due("14: the last but one", y.days(1), 1);
        Kit.due("14: the last", y.days(1), 1);
        Kit.due("14: none is left", y.days(1), 0);
        Kit.due("14: none is left", y.days(60), 0);
        Kit.due("14: not as told then, too", y.days(61), NONE);
        Kit.due("9: DAY 400", y.now(0), 400);
        Kit.due("7: no HARM more", y.man(0, 2), 1600);
        Kit.due("9: no BARE DAY more", y.now(4), 400);
    }

    private static void beyondTheLastDay() {
        HeldCoats x = Kit.later("seat s 1;man m 0;man n 0;coat a m 3 9;coat b m 0 9;cold 399 5;", 399);
        x.days(1);
        Kit.due("9: COLD by the same rule", x.now(1), 5);
        Kit.due("7: CHILL by the same rule", x.man(0, 1), 2);
        Kit.due("10: LAY", x.lay(0, 0), 0);
        Kit.due("6: HOLDS", x.seat(0, 2), 0);
        Kit.due("12: LEND", x.lend(0, 1), 0);
        Kit.due("11: WEAR", x.wear(1, 0), 0);
        Kit.due("13: KEEP", x.keep(0), 0);
        Kit.due("36: a BOOK without DAYS", Kit.book(x, "b lies s;", 1), NONE);
        Kit.due("15: undone", x.undo(), 7);
        Kit.due("15: undone", x.undo(), 6);
    }

    private static void bareDays() {
        HeldCoats x = Kit.of("seat s 1;man m 0;coat a m 0 9;");
        Kit.due("9: none so far", x.now(4), 0);
        Kit.due("9: the first: none", x.now(5), NONE);
        x.days(1);
        Kit.due("9: DAY 0 is the first", x.now(5), 0);
        x.undo();
        Kit.due("9: none again", x.now(5), NONE);
        x.lay(0, 0);
        x.days(3);
        Kit.due("9: none yet", x.now(5), NONE);
        x.wear(0, 0);
        x.days(2);
        Kit.due("9: two", x.now(4), 2);
        Kit.due("9: the first", x.now(5), 3);
        x.lay(0, 0);
        x.days(1);
        x.keep(0);
        x.wear(0, 0);
        x.days(1);
        Kit.due("9: three", x.now(4), 3);
        Kit.due("9: the first stays", x.now(5), 3);
    }

    private static void undoneAtMost() {
        for (int acts : new int[] {1, 7, 8, 9, 10, 17, 18, 30}) {
            HeldCoats x = Kit.court();
            for (int k = 0; k < acts; k++) {
                x.lend(0, 1 - k % 2);
                x.days(k % 2 == 0 ? 61 : 0);
            }
            int kept = Math.min(acts, 8);
            for (int k = kept - 1; k >= 0; k--) {
                Kit.due("15: how many more of " + acts, x.undo(), k);
            }
            Kit.due("15: NONE: none is", x.undo(), NONE);
            Kit.due("15: NONE again", x.undo(), NONE);
            Kit.due("15: all but eight stay", x.coat(0, 4), acts <= 8 ? 0 : acts % 2 == 0 ? 0 : 1);
        }
        // what was undone makes room
        HeldCoats y = Kit.court();
        for (int k = 0; k < 8; k++) {
            y.days(1);
        }
        Kit.due("15: seven", y.undo(), 7);
        Kit.due("15: six", y.undo(), 6);
        y.days(2);
        Kit.due("15: the new one", y.undo(), 6);
        Kit.due("9: DAY", y.now(0), 6);
        for (int k = 0; k < 4; k++) {
            y.days(3);
        }
        for (int k = 7; k >= 0; k--) {
            Kit.due("15: eight of ten", y.undo(), k);
        }
        Kit.due("9: DAY", y.now(0), 2);
        Kit.due("15: no ninth", y.undo(), NONE);
    }

    /** What is an act, and what is none. */
    private static void undoneOrNot() {
        act("10: lay", x -> x.lay(1, 1), 0, true);
        act("10: lay: why not", x -> x.lay(0, 0), 1, false);
        act("10: lay: none such", x -> x.lay(4, 0), NONE, false);
        act("11: wear", x -> x.wear(2, 3), 0, true);
        act("11: wear: why not", x -> x.wear(1, 3), 2, false);
        act("11: wear: none such", x -> x.wear(3, 3), NONE, false);
        act("12: lend", x -> x.lend(1, 1), 0, true);
        act("12: lend: why not", x -> x.lend(1, 0), 2, false);
        act("12: lend: none such", x -> x.lend(1, 3), NONE, false);
        act("13: keep", x -> x.keep(1), 0, true);
        act("13: keep: why not", x -> x.keep(3), 1, false);
        act("13: keep: none such", x -> x.keep(4), NONE, false);
        act("14: days", x -> x.days(1), 1, true);
        act("14: days: not as told", x -> x.days(0), NONE, false);
        act("34: drawn", x -> x.drawn(1, 1), 1, true);
        act("34: drawn: not as told", x -> x.drawn(0, 1), NONE, false);
        act("36: a BOOK that is lived", x -> Kit.book(x, "cape kept;", 1), NONE, true);
        act("36: lived as far as it is not WRONG", x -> Kit.book(x, "cape kept;cape kept;", 1), 1, true);
        act("36: a BOOK that is judged", x -> Kit.book(x, "cape kept;", 0), NONE, false);
        act("36: a BOOK with a FAULT", x -> Kit.book(x, "cape kept", 1), -11, false);
        act("36: another lives", x -> x.book(2), -1000, false);
        act("38: a SENTENCE", x -> Kit.sentence(x, "bare"), 1, false);
        act("40: an image", x -> x.image(0) ? 1 : 0, 1, false);
        act("4: a CAPITAL with a FAULT", x -> Kit.capital(x, "x"), -1, false);
        HeldCoats over = Kit.later(Kit.COURT, 400);
        Kit.due("14: days() of 0", over.days(1), 0);
        Kit.due("34: drawn() of 0", over.drawn(1, 1), 0);
        Kit.due("15: are no acts", over.undo(), 6);
        Kit.due("15: the forty were", over.now(0), 360);
    }

    private static void act(String what, Kit.Ask call, int want, boolean counts) {
        HeldCoats x = Kit.court();
        x.lay(0, 0);
        x.keep(3);
        Kit.due(what, call.of(x), want);
        Kit.due("15: after " + what, x.undo(), counts ? 2 : 1);
        Kit.due("15: before " + what, x.undo(), counts ? 1 : 0);
        Kit.due("15: fur lies until its own turn", x.coat(0, 3), counts ? 10 : 0);
    }

    private static void whatUndoLeaves() {
        HeldCoats x = Kit.busy();
        Kit.sentence(x, "bare and worth < 50");
        x.feed(1, 2, 3, 4, 5);
        String last = Kit.last(x);
        int said = x.said(NONE);
        Kit.due("15: undone", x.undo(), 2);
        Kit.due("15: undone", x.undo(), 1);
        Kit.due("15: undone", x.undo(), 0);
        Kit.due("15: what other calls told, and the tape, stay", Kit.last(x).equals(last), true);
        Kit.due("39: the SENTENCE stays, of what is so now", x.said(NONE), said);
        Kit.due("15: as at first", Kit.all(x).replaceAll(" \\S+ \\S+$", "").equals(Kit.all(Kit.court()).replaceAll(" \\S+ \\S+$", "")), true);
    }

    private static void refusedOnesLeaveAll() {
        Kit.leavesAll("10: 1", x -> x.lay(0, 1), 1);
        Kit.leavesAll("10: 2", x -> x.lay(1, 0), 2);
        Kit.leavesAll("10: NONE", x -> x.lay(1, 3), NONE);
        Kit.leavesAll("11: 1", x -> x.wear(0, 1), 1);
        Kit.leavesAll("11: 2", x -> x.wear(1, 3), 2);
        Kit.leavesAll("11: NONE", x -> x.wear(0, 4), NONE);
        Kit.leavesAll("12: 2", x -> x.lend(3, 2), 2);
        Kit.leavesAll("12: NONE", x -> x.lend(4, 0), NONE);
        Kit.leavesAll("13: 1", x -> x.keep(0), 1);
        Kit.leavesAll("13: NONE", x -> x.keep(-1), NONE);
        Kit.leavesAll("14: NONE", x -> x.days(61), NONE);
        Kit.leavesAll("6: NONE", x -> x.seat(3, 0), NONE);
        Kit.leavesAll("9: NONE", x -> x.now(8), NONE);
        Kit.leavesAll("3: false", x -> x.end(1) ? 1 : 0, 0);
        Kit.leavesAll("7: a throw changes nothing", x -> {
            Kit.refused("7: no such MAN", () -> x.man(3, 0));
            Kit.refused("7: no such what", () -> x.man(0, 8));
            return 0;
        }, 0);
        Kit.leavesAll("8: a throw changes nothing", x -> {
            Kit.refused("8: no such COAT", () -> x.coat(4, 0));
            Kit.refused("8: no such what", () -> x.coat(0, 5));
            return 0;
        }, 0);
    }
}
