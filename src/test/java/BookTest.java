/** Promises 36 and 37: a BOOK, its FAULTS, what is WRONG in it, and what is told of it. */
public final class BookTest {
    private static final int NONE = HeldCoats.NONE;

    public static void main(String[] args) {
        faults();
        tooMany();
        tooLong();
        wrong();
        lived();
        told();
        Kit.finish("BookTest");
    }

    private static void faults() {
        fault("fur", 1, 3);
        fault("fur lies", 1, 8);
        fault("fur lies throne", 1, 15);
        fault("fur lies throne ", 1, 16);
        fault("fur lies throne;;", 1, 16);
        fault("fur lies 5;", 1, 9);
        fault("fur lies day;", 1, 9);
        fault("fur wears throne;", 1, 4);
        fault("fur throne;", 1, 4);
        fault("fur 5;", 1, 4);
        fault("fur;", 1, 3);
        fault("fur kept throne;", 1, 9);
        fault("ann lies throne;", 1, 4);
        fault("ann wears;", 1, 9);
        fault("seat throne;", 1, 0);
        fault("lies throne;", 1, 0);
        fault("5;", 1, 0);
        fault("day;", 1, 3);
        fault("day fur;", 1, 4);
        fault("days 5;", 1, 0);
        fault("day 0;", 2, 4);
        fault("day 61;", 2, 4);
        fault("throne lies fur;", 3, 0);
        fault("nobody wears fur;", 3, 0);
        fault("fur lies ann;", 3, 9);
        fault("fur lies cape;", 3, 9);
        fault("fur lies sofa;", 3, 9);
        fault("fur lent throne;", 3, 9);
        fault("fur lent rug;", 3, 9);
        fault("ann wears bob;", 3, 10);
        fault("ann wears throne;", 3, 10);
        fault("fur kept;day 5;\nannn wears fur;", 3, 16);
    }

    private static void tooMany() {
        String forty = "day 1;".repeat(40);
        HeldCoats x = Kit.court();
        Kit.due("36: forty", Kit.book(x, forty, 0), NONE);
        Kit.due("37: forty", x.told(1), 40);
        fault(forty + "day", 4, 240);
        fault(forty + "day 61;", 4, 240);
        fault(forty + " fur", 4, 241);
        fault(forty + "ann", 4, 240);
        fault(forty + "throne", 3, 240);
        fault(forty + "sofa", 3, 240);
        fault(forty + "seat", 1, 240);
        fault(forty + ";", 1, 240);
        fault(forty.substring(0, 239) + "x", 1, 238);
    }

    private static void tooLong() {
        HeldCoats x = Kit.court();
        Kit.due("36: 400 bytes", Kit.book(x, "day 1;" + " ".repeat(394), 0), NONE);
        fault("day 1;" + " ".repeat(395), 1, 400);
        fault("day 1;" + " ".repeat(390) + "day 61;", 1, 400);
        fault("day 1;" + " ".repeat(389) + "day 61;", 2, 399);
        fault("day 1;" + " ".repeat(393) + "sofa", 3, 399);
    }

    private static void wrong() {
        HeldCoats x = Kit.court();
        Kit.due("36: none", Kit.book(x, "", 0), NONE);
        verdict(x, 0, 0, 0, 0);
        judged("fur lies throne;fur lies bench;", 1, 1, 1, 0, 0);
        judged("fur lies throne;cape lies throne;day 1;", 1, 2, 1, 0, 0);
        judged("ann wears fur;", 0, 11, 0, 0, 0);
        judged("day 1;fur kept;bob wears fur;", 2, 12, 2, 1, 1);
        judged("fur lent ann;", 0, 22, 0, 0, 0);
        judged("fur lies throne;day 3;fur lent bob;", 2, 21, 2, 3, 0);
        judged("fur lies throne;day 3;fur kept;", 2, 31, 2, 3, 0);
        judged("fur lies throne;day 3;fur lies throne;", 2, 1, 2, 3, 0);
        judged("day 60;day 60;day 60;day 60;day 60;day 60;day 41;", 6, 41, 6, 360, 360);
        judged("day 60;day 60;day 60;day 60;day 60;day 60;day 40;day 1;", 7, 41, 7, 400, 400);
        judged("fur lies throne;day 2;shawl lent bob;shawl kept;bob wears shawl;day 6;", NONE, 0, 6, 8, 5);
    }

    private static void lived() {
        HeldCoats x = Kit.court();
        Kit.write(x, "fur lies throne;");
        Kit.due("36: another lives", x.book(2), -1000);
        Kit.due("36: another lives", x.book(-1), -1000);
        Kit.due("36: the tape stays", x.count(7), 16);
        Kit.due("37: none yet", x.told(0), NONE);
        Kit.due("36: judged", x.book(0), NONE);
        Kit.due("36: the tape is empty then", x.count(7), 0);
        Kit.due("36: all stays", x.seat(0, 1), NONE);
        Kit.due("36: no act", x.undo(), NONE);
        Kit.due("36: lived", Kit.book(x, "rug lies throne;day 1;fur lent ann;cape kept;", 1), 2);
        Kit.due("36: lived so far", x.seat(0, 1), 2);
        Kit.due("36: lived so far", x.now(0), 1);
        Kit.due("36: no farther", x.coat(1, 3), 0);
        Kit.due("36: a fault", Kit.book(x, "cape kept;cape kept", 1), -2 - 19);
        Kit.due("5: a fault", x.fault(), 1);
        Kit.due("36: nothing is lived then", x.coat(1, 3), 0);
        Kit.due("37: of the one without", x.told(0), 22);
        Kit.due("15: one act", x.undo(), 0);
        Kit.due("9: day", x.now(0), 0);
        Kit.due("36: lived", Kit.book(x, "cape kept;ann wears cape;cape lent cid;", 1), NONE);
        Kit.due("12: lent", x.coat(1, 4), 2);
    }

    private static void told() {
        HeldCoats x = Kit.court();
        for (int what = -1; what < 5; what++) {
            Kit.due("37: ahead of any", x.told(what), NONE);
        }
        x.days(2);
        Kit.book(x, "day 3;fur lies throne;day 2;", 0);
        verdict(x, 0, 3, 7, 5);
        Kit.due("37: no what", x.told(4), NONE);
        Kit.due("37: no what", x.told(-1), NONE);
        x.days(1);
        verdict(x, 0, 3, 7, 5);
        x.book(5);
        Kit.book(x, "nobody", 1);
        verdict(x, 0, 3, 7, 5);
        Kit.capital(x, "");
        verdict(x, 0, 3, 7, 5);
    }

    private static void judged(String text, int line, int... want) {
        for (int lives = 0; lives < 2; lives++) {
            HeldCoats x = Kit.court();
            Kit.due("36: book " + text, Kit.book(x, text, lives), line);
            Kit.due("5: no fault", x.fault(), 0);
            verdict(x, want);
        }
    }

    private static void verdict(HeldCoats x, int... want) {
        for (int what = 0; what < 4; what++) {
            Kit.due("37: told(" + what + ")", x.told(what), want[what]);
        }
    }

    private static void fault(String text, int kind, int place) {
        for (int lives = 0; lives < 2; lives++) {
            HeldCoats x = Kit.court();
            Kit.due("36: book " + text, Kit.book(x, text, lives), -2 - place);
            Kit.due("5: fault of " + text, x.fault(), kind);
            Kit.due("37: told of " + text, x.told(0), NONE);
            Kit.due("15: undo of " + text, x.undo(), NONE);
        }
    }
}
