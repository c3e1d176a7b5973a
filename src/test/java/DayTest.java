/** Promises 6 to 15: what is so, what is done, DAYS, and acts undone. */
public final class DayTest {
    private static final int NONE = HeldCoats.NONE;

    public static void main(String[] args) {
        asked();
        laying();
        wearing();
        lending();
        keeping();
        ruling();
        summer();
        holdsAndMoths();
        cold();
        lastDays();
        undoing();
        eachUndone();
        anew();
        Kit.finish("DayTest");
    }

    private static void asked() {
        HeldCoats x = Kit.court();
        int[] no = {-1, 8, 100, Integer.MIN_VALUE, Integer.MAX_VALUE};
        for (int n : no) {
            Kit.due("6: no seat", x.seat(n, 0), NONE);
            Kit.due("6: no what", x.seat(0, n), NONE);
            Kit.refused("7: no man", () -> x.man(n, 0));
            Kit.refused("7: no what", () -> x.man(0, n));
            Kit.refused("8: no coat", () -> x.coat(n, 0));
            Kit.refused("8: no what", () -> x.coat(0, n));
            Kit.due("9: no what", x.now(n), NONE);
            Kit.due("10: no coat", x.lay(n, 0), NONE);
            Kit.due("10: no seat", x.lay(0, n), NONE);
            Kit.due("11: no man", x.wear(n, 0), NONE);
            Kit.due("11: no coat", x.wear(0, n), NONE);
            Kit.due("12: no coat", x.lend(n, 0), NONE);
            Kit.due("12: no man", x.lend(0, n), NONE);
            Kit.due("13: no coat", x.keep(n), NONE);
        }
        Kit.due("6: no seat", x.seat(3, 0), NONE);
        Kit.due("6: no what", x.seat(0, 4), NONE);
        Kit.refused("7: no man", () -> x.man(3, 0));
        Kit.refused("8: no coat", () -> x.coat(4, 0));
        Kit.refused("8: no what", () -> x.coat(0, 5));
        Kit.due("10: no coat", x.lay(4, 0), NONE);
        Kit.due("10: no seat", x.lay(0, 3), NONE);
        Kit.due("11: no man", x.wear(3, 0), NONE);
        Kit.due("14: no days", x.days(0), NONE);
        Kit.due("14: no days", x.days(61), NONE);
        Kit.due("14: no days", x.days(-1), NONE);
        Kit.due("15: none was done", x.undo(), NONE);
        row("6: seat 1 bare", new int[] {x.seat(1, 0), x.seat(1, 1), x.seat(1, 2), x.seat(1, 3)}, 20, NONE, NONE, 0);
        man("7: ann at first", x, 0, 3, 0, 0, 3, 0, 0, 0, 3);
        man("7: bob at first", x, 1, 0, 5, 0, 4, 0, 0, 0, 4);
        coat("8: cape at first", x, 1, 0, 2, 30, 0, 0);
        coat("8: shawl at first", x, 3, 2, 1, 50, 2, 2);
        now("9: at first", x, 0, 10, 0, NONE, 0, NONE, 0, 0);
    }

    private static void laying() {
        HeldCoats x = Kit.court();
        Kit.due("10: lay", x.lay(0, 1), 0);
        row("6: laid", new int[] {x.seat(1, 0), x.seat(1, 1), x.seat(1, 2), x.seat(1, 3)}, 20, 0, 0, 0);
        coat("8: laid", x, 0, 0, 6, 9, 11, 0);
        man("7: holds", x, 0, 3, 5, 0, 2, 2, 20, 0, 3);
        Kit.due("10: a coat lies there", x.lay(1, 1), 2);
        Kit.due("10: nobody wears it", x.lay(0, 0), 1);
        Kit.due("10: both: the least", x.lay(0, 1), 1);
        Kit.due("10: another seat", x.lay(1, 2), 0);
        man("7: holds two", x, 0, 3, 7, 0, 0, 6, 25, 0, 3);
        // whoever laid it: rug is bob's though cid wore it
        Kit.due("12: lend", x.lend(2, 2), 0);
        x.keep(2);
        x.wear(2, 2);
        Kit.due("10: lay what is lent", x.lay(2, 0), 0);
        Kit.due("6: held by whose it is", x.seat(0, 2), 1);
    }

    private static void wearing() {
        HeldCoats x = Kit.court();
        Kit.due("11: worn by himself", x.wear(0, 0), 1);
        Kit.due("11: worn, and not his: the least", x.wear(1, 0), 1);
        x.lay(0, 0);
        Kit.due("11: not his", x.wear(1, 0), 2);
        x.lend(0, 1);
        Kit.due("11: its user, off the seat", x.wear(1, 0), 0);
        coat("8: worn by another", x, 0, 0, 6, 9, 1, 1);
        Kit.due("6: bare again", x.seat(0, 1), NONE);
        Kit.due("7: warm", x.man(1, 1), 0);
        Kit.due("11: worn by another", x.wear(0, 0), 1);
        x.keep(0);
        Kit.due("11: it is his, though lent", x.wear(0, 0), 0);
        Kit.due("8: still lent", x.coat(0, 4), 1);
        x.keep(0);
        x.keep(1);
        x.keep(2);
        Kit.due("11: from the queue's middle", x.wear(0, 1), 0);
        Kit.due("20: moved up", x.ahead(2), 1);
        // a coat taken off and laid again begins anew
        x.lay(1, 0);
        x.days(1);
        Kit.due("6: one day", x.seat(0, 3), 1);
        x.wear(0, 1);
        x.lay(1, 0);
        Kit.due("6: anew", x.seat(0, 3), 0);
    }

    private static void lending() {
        HeldCoats x = Kit.court();
        Kit.due("12: he is its user", x.lend(0, 0), 2);
        Kit.due("12: lend", x.lend(0, 2), 0);
        coat("8: lent, worn as before", x, 0, 0, 6, 9, 0, 2);
        Kit.due("12: back", x.lend(0, 0), 0);
        x.lay(0, 0);
        Kit.due("12: lend what lies", x.lend(0, 1), 0);
        x.days(3);
        Kit.due("8: eaten", x.coat(0, 3), 30);
        Kit.due("12: eaten", x.lend(0, 0), 1);
        Kit.due("12: eaten, and its user: the least", x.lend(0, 1), 1);
        Kit.due("11: eaten", x.wear(0, 0), 1);
        Kit.due("10: eaten", x.lay(0, 0), 1);
        Kit.due("13: eaten", x.keep(0), 1);
        coat("8: eaten", x, 0, 0, 6, 0, 30, 1);
        Kit.due("7: his, eaten ones not", x.man(0, 7), 2);
        Kit.due("9: eaten", x.now(7), 1);
    }

    private static void keeping() {
        HeldCoats x = Kit.court();
        Kit.due("13: keep", x.keep(3), 0);
        Kit.due("13: nobody wears it", x.keep(3), 1);
        Kit.due("9: one", x.now(6), 1);
        coat("8: kept", x, 3, 2, 1, 50, 20, 2);
        x.keep(0);
        x.keep(2);
        Kit.due("21: first", x.queue(0), 3);
        Kit.due("21: second", x.queue(1), 0);
        Kit.due("21: third", x.queue(2), 2);
        Kit.due("21: none", x.queue(3), NONE);
        Kit.due("21: none", x.queue(-1), NONE);
        x.lay(1, 0);
        Kit.due("13: it lies", x.keep(1), 1);
        Kit.due("10: kept", x.lay(0, 1), 1);
    }

    private static void ruling() {
        HeldCoats x = Kit.of("seat a 5;seat b 7;seat c 2;man p 9;man q 0;man r 0;coat x r 1 9;coat y q 1 9;coat z r 1 9;cold 0 4;");
        x.lay(0, 0);
        x.lay(1, 1);
        Kit.due("9: most worth", x.now(3), 1);
        x.lay(2, 2);
        Kit.due("9: of like ones the first", x.now(3), 1);
        Kit.due("14: two days", x.days(2), 2);
        Kit.due("7: ruled", x.man(1, 6), 2);
        Kit.due("7: ruled not", x.man(2, 6), 0);
        Kit.due("7: harm", x.man(1, 2), 32);
        Kit.due("7: hardy", x.man(0, 2), 0);
        x.wear(1, 1);
        Kit.due("9: the other", x.now(3), 2);
        x.days(1);
        Kit.due("7: ruled", x.man(2, 6), 1);
        Kit.due("7: harm by the chill of each day", x.man(1, 2), 41);
        now("9: never bare", x, 3, 4, 0, 2, 0, NONE, 0, 0);
        x.wear(2, 0);
        x.wear(2, 2);
        x.days(2);
        now("9: bare", x, 5, 4, 0, NONE, 2, 3, 0, 0);
    }

    private static void summer() {
        HeldCoats x = Kit.of("seat a 5;man p 0;coat x p 1 99;cold 0 5;cold 2 4;cold 4 5;summer 5;holds 30;moths 0;");
        x.lay(0, 0);
        Kit.due("9: at summer is none", x.now(2), 0);
        x.days(2);
        now("9: summer", x, 2, 4, 1, NONE, 0, NONE, 0, 0);
        row("6: held by nobody", new int[] {x.seat(0, 1), x.seat(0, 2), x.seat(0, 3)}, 0, NONE, 2);
        man("7: holds nothing", x, 0, 0, 4, 50, 0, 0, 0, 2, 1);
        x.days(3);
        now("9: after it", x, 5, 5, 0, 0, 2, 2, 0, 0);
        Kit.due("7: ruled", x.man(0, 6), 3);
    }

    private static void holdsAndMoths() {
        HeldCoats x = Kit.of("seat a 5;seat b 6;seat c 7;man p 0;coat x p 1 4;coat y p 1 5;coat z p 1 9;moths 2;holds 2;");
        x.lay(2, 0);
        x.lay(1, 1);
        x.lay(0, 2);
        x.days(1);
        Kit.due("6: a day", x.seat(0, 3), 1);
        Kit.due("8: cloth", x.coat(0, 2), 2);
        x.days(1);
        Kit.due("8: at 0 eaten, though holds end", x.coat(0, 3), 30);
        Kit.due("8: cloth of an eaten one", x.coat(0, 2), 0);
        Kit.due("21: by numbers", x.queue(0), 1);
        Kit.due("21: by numbers", x.queue(1), 2);
        Kit.due("9: cloakroom", x.now(6), 2);
        x.days(5);
        Kit.due("8: moths eat what lies alone", x.coat(1, 2), 1);
        x.wear(0, 1);
        x.lay(1, 1);
        x.days(1);
        Kit.due("8: below 0 eaten", x.coat(1, 3), 30);
        Kit.due("8: cloth 0", x.coat(1, 2), 0);
        Kit.due("9: both", x.now(7), 3);
        HeldCoats y = Kit.of("seat a 5;seat b 6;man p 0;coat x p 1 4;coat y p 1 5;moths 0;holds 1;");
        y.keep(1);
        y.lay(0, 0);
        y.days(1);
        Kit.due("21: last in the queue", y.queue(1), 0);
        Kit.due("8: no moths", y.coat(0, 2), 4);
    }

    private static void cold() {
        HeldCoats x = Kit.of("cold 5 30;cold 2 20;man p 15;coat c p 4 1;cold 399 9;");
        Kit.due("9: none yet", x.now(1), 0);
        x.days(2);
        Kit.due("9: from that day", x.now(1), 20);
        Kit.due("7: chill", x.man(0, 1), 1);
        x.days(2);
        Kit.due("9: up to the next", x.now(1), 20);
        x.days(1);
        Kit.due("9: the latest, not the last told", x.now(1), 30);
        Kit.due("7: chill", x.man(0, 1), 11);
        Kit.due("7: harm", x.man(0, 2), 3);
    }

    private static void lastDays() {
        HeldCoats x = Kit.of("man p 0;cold 0 40;cold 399 1;coat c p 0 1;seat s 1;");
        for (int k = 0; k < 6; k++) {
            Kit.due("14: sixty", x.days(60), 60);
        }
        Kit.due("14: those that are left", x.days(60), 40);
        Kit.due("9: over", x.now(0), 400);
        Kit.due("9: cold then", x.now(1), 1);
        Kit.due("14: none is left", x.days(1), 0);
        Kit.due("7: harm", x.man(0, 2), 399 * 1600 + 1);
        Kit.due("9: bare days", x.now(4), 400);
        Kit.due("10: lay yet", x.lay(0, 0), 0);
        Kit.due("9: who would rule", x.now(3), 0);
        Kit.due("15: the lay", x.undo(), 7);
        Kit.due("15: the forty: days() of 0 were no act", x.undo(), 6);
        Kit.due("9: the day", x.now(0), 360);
    }

    private static void undoing() {
        HeldCoats x = Kit.court();
        x.lay(0, 0);
        x.lay(0, 0);
        x.days(1);
        x.lend(1, 2);
        x.keep(1);
        x.wear(2, 1);
        Kit.due("15: refused ones are none", x.undo(), 4);
        Kit.due("20: in the queue again", x.ahead(1), 0);
        Kit.due("15: keep", x.undo(), 3);
        Kit.due("8: worn again", x.coat(1, 3), 0);
        Kit.due("15: lend", x.undo(), 2);
        Kit.due("8: user again", x.coat(1, 4), 0);
        Kit.due("15: days", x.undo(), 1);
        now("9: as it was", x, 0, 10, 0, 0, 0, NONE, 0, 0);
        Kit.due("7: no harm", x.man(1, 2), 0);
        Kit.due("8: cloth again", x.coat(0, 2), 9);
        Kit.due("6: lain", x.seat(0, 3), 0);
        Kit.due("15: lay", x.undo(), 0);
        Kit.due("15: none", x.undo(), NONE);
        for (int k = 0; k < 20; k++) {
            x.days(1);
        }
        for (int k = 7; k >= 0; k--) {
            Kit.due("15: eight are kept", x.undo(), k);
        }
        Kit.due("15: no ninth", x.undo(), NONE);
        Kit.due("9: day", x.now(0), 12);
        x.drawn(3, 5);
        Kit.due("15: drawn", x.undo(), 0);
        Kit.due("9: day", x.now(0), 12);
        Kit.book(x, "rug lies throne;day 2;", 1);
        Kit.due("9: day", x.now(0), 14);
        Kit.book(x, "day 2;", 0);
        Kit.due("15: book", x.undo(), 0);
        Kit.due("9: day", x.now(0), 12);
        Kit.due("8: rug", x.coat(2, 3), 1);
        Kit.sentence(x, "bare");
        x.lay(2, 0);
        Kit.sentence(x, "not bare");
        x.undo();
        Kit.due("15: the sentence stays", x.said(NONE), 0);
    }

    /** Behind every act all is undone to the letter. */
    private static void eachUndone() {
        HeldCoats x = Kit.court();
        x.lay(0, 0);
        x.lay(2, 1);
        x.days(1);
        x.keep(3);
        x.lend(1, 2);
        x.lend(3, 1);
        for (int act = 0; act < 8; act++) {
            // to and fro, so that no act begins as the one before
            Kit.due("12: lend", x.lend(2, act % 2 == 0 ? 2 : 1), 0);
            String before = Kit.all(x);
            int answer = switch (act) {
                case 0 -> x.lay(1, 2);
                case 1 -> x.wear(1, 3);
                case 2 -> x.wear(1, 2);
                case 3 -> x.lend(0, 2);
                case 4 -> x.keep(1);
                case 5 -> x.days(9) - 9;
                case 6 -> x.drawn(9, 3) - 9;
                default -> Kit.book(x, "cid wears shawl;day 5;shawl lies stool;rug kept;", 1) - 3;
            };
            Kit.due("10 to 14, 34, 36: act " + act, answer, 0);
            Kit.due("15: act " + act + " is seen", Kit.all(x).equals(before), false);
            x.undo();
            Kit.due("15: act " + act + " undone", Kit.all(x).equals(before), true);
        }
    }

    private static void anew() {
        HeldCoats x = Kit.court();
        String before = Kit.all(x);
        x.days(1);
        x.lay(0, 0);
        x.keep(3);
        x.lend(1, 1);
        x.days(2);
        Kit.capital(x, Kit.COURT);
        Kit.due("4: a new one is as at first", Kit.all(x).equals(before), true);
        x.lay(1, 0);
        man("7: holds the first seat", x, 0, 3, 1, 0, 1, 1, 50, 0, 3);
        Kit.due("6: lain", x.seat(0, 3), 0);
        HeldCoats y = new HeldCoats();
        Kit.due("9: bare", y.now(5), NONE);
        y.days(2);
        Kit.due("9: bare", y.now(5), 0);
        HeldCoats z = Kit.of("seat a 1;seat b 2;seat c 3;seat d 4;seat e 5;seat f 6;seat g 7;seat h 8;man p 0;man q 0;"
            + "coat aa p 1 9;coat bb p 1 9;coat cc q 1 9;coat dd p 1 9;coat ee p 1 9;coat ff q 1 9;coat gg p 1 9;coat hh p 1 9;");
        for (int c = 0; c < 8; c++) {
            Kit.due("10: lay on each", z.lay(c, 7 - c), 0);
        }
        Kit.due("7: seats", z.man(0, 4), 0xdb);
        Kit.due("7: worth", z.man(0, 5), 36 - 9);
        Kit.due("7: worth", z.man(1, 5), 9);
        Kit.due("9: ruler", z.now(3), 0);
        z.days(8);
        Kit.due("8: eight days", z.coat(7, 2), 1);
        z.days(1);
        Kit.due("9: all are eaten, though holds end", z.now(7), 255);
        Kit.due("9: none is kept", z.now(6), 0);
    }

    private static void man(String what, HeldCoats x, int m, int... want) {
        int[] got = new int[8];
        for (int k = 0; k < 8; k++) {
            got[k] = x.man(m, k);
        }
        row(what, got, want);
    }

    private static void coat(String what, HeldCoats x, int c, int... want) {
        int[] got = new int[5];
        for (int k = 0; k < 5; k++) {
            got[k] = x.coat(c, k);
        }
        row(what, got, want);
    }

    private static void now(String what, HeldCoats x, int... want) {
        int[] got = new int[8];
        for (int k = 0; k < 8; k++) {
            got[k] = x.now(k);
        }
        row(what, got, want);
    }

    private static void row(String what, int[] got, int... want) {
        for (int k = 0; k < want.length; k++) {
            Kit.due(what + " (" + k + ")", got[k], want[k]);
        }
    }
}
