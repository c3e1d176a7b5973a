/** Promises 40 to 42: images, what they bring back and what they leave, and counts. */
public final class ImageTest {
    private static final int NONE = HeldCoats.NONE;

    public static void main(String[] args) {
        places();
        broughtBack();
        left();
        counts();
        Kit.finish("ImageTest");
    }

    private static void places() {
        HeldCoats x = Kit.court();
        for (int k : new int[] {-1, 2, 100, Integer.MIN_VALUE}) {
            Kit.due("40: no such place", x.image(k), false);
            Kit.due("41: no such place", x.restore(k), false);
        }
        Kit.due("41: nothing is kept", x.restore(0), false);
        Kit.due("41: nothing is kept", x.restore(1), false);
        x.days(1);
        Kit.due("40: kept", x.image(1), true);
        Kit.due("40: no act, none lost", x.undo(), 0);
        Kit.due("41: the other is empty", x.restore(0), false);
        Kit.due("41: restored", x.restore(1), true);
        Kit.due("41: day", x.now(0), 1);
    }

    private static void broughtBack() {
        HeldCoats x = Kit.court();
        Kit.sentence(x, "bare");
        x.lay(0, 0);
        x.keep(3);
        x.keep(1);
        x.lend(2, 2);
        x.days(2);
        x.image(0);
        String before = Kit.all(x);
        Kit.capital(x, "seat z 9;man q 1;coat fur q 3 3;cold 0 4;limit 7;");
        x.image(1);
        String other = Kit.all(x);
        Kit.due("41: other", before.equals(other), false);
        Kit.due("41: restored", x.restore(0), true);
        Kit.due("41: all is as kept: " + Kit.all(x), Kit.all(x).equals(before), true);
        Kit.due("41: the sentence, too", x.said(NONE), 2);
        Kit.due("41: the names, too", Kit.book(x, "ann wears shawl;", 0), 0);
        x.wear(2, 3);
        x.days(5);
        Kit.sentence(x, "held");
        Kit.due("41: again", x.restore(0), true);
        Kit.due("41: all is as kept", Kit.all(x).equals(before), true);
        Kit.due("41: nothing can be undone", x.undo(), NONE);
        Kit.due("41: the other place", x.restore(1), true);
        Kit.due("41: all is as kept", Kit.all(x).equals(other), true);
        Kit.due("41: no sentence", x.said(NONE), NONE);
        x.lay(0, 0);
        Kit.due("15: from then on", x.undo(), 0);
        x.days(3);
        x.image(1);
        x.days(1);
        x.restore(1);
        Kit.due("40: kept anew", x.now(0), 3);
    }

    private static void left() {
        HeldCoats x = Kit.court();
        x.image(0);
        x.best(0, 999);
        x.share(0, 1, 2, 3);
        Kit.hooks(x, 0, 0, 1);
        x.rounds();
        Kit.book(x, "day 4;", 0);
        Kit.sentence(x, "bear");
        x.feed(1, 2, 3, 4, 5);
        x.days(1);
        x.restore(0);
        Kit.due("41: tape", x.count(7), 20);
        Kit.due("41: fault", x.fault(), 1);
        Kit.due("41: laid", x.laid(), 3);
        Kit.due("41: turns", x.turns(), 7);
        Kit.due("41: surely", x.surely(), 7);
        Kit.due("41: never", x.never(), 8);
        Kit.due("41: price", x.price(), 25);
        Kit.due("41: told", x.told(2), 4);
        Kit.due("41: nothing can be undone", x.undo(), NONE);
    }

    private static void counts() {
        HeldCoats x = Kit.court();
        int[] want = {3, 3, 4, 3, 4, 3, 300, 0};
        for (int what = 0; what < 8; what++) {
            Kit.due("42: count(" + what + ")", x.count(what), want[what]);
        }
        for (int what : new int[] {-1, 8, Integer.MIN_VALUE, Integer.MAX_VALUE}) {
            Kit.due("42: no what", x.count(what), NONE);
        }
        x.feed(0, 0, 0, 0, 0);
        Kit.due("42: bytes", x.count(7), 20);
    }
}
