/** Promises 38 and 39: a SENTENCE, its FAULTS, and the SEATS of which it may be said. */
public final class SentenceTest {
    private static final int NONE = HeldCoats.NONE;

    public static void main(String[] args) {
        faults();
        counted();
        tooMany();
        tooLong();
        said();
        stays();
        Kit.finish("SentenceTest");
    }

    private static void faults() {
        fault("", 1, 0);
        fault("  ", 1, 2);
        fault("ann", 1, 0);
        fault("5", 1, 0);
        fault("and", 1, 0);
        fault("or bare", 1, 0);
        fault("seat", 1, 0);
        fault(")", 1, 0);
        fault("not", 1, 3);
        fault("not )", 1, 4);
        fault("()", 1, 1);
        fault("(bare", 1, 5);
        fault("(bare ", 1, 6);
        fault("(bare;", 1, 5);
        fault("bare)", 1, 4);
        fault("bare;", 1, 4);
        fault("bare bare", 1, 5);
        fault("bare and", 1, 8);
        fault("bare or or", 1, 8);
        fault("bare ann", 1, 5);
        fault("of", 1, 2);
        fault("of 5", 1, 3);
        fault("of of", 1, 3);
        fault("of fur", 3, 3);
        fault("of throne", 3, 3);
        fault("of nobody", 3, 3);
        fault("under ann", 3, 6);
        fault("under throne", 3, 6);
        fault("under x", 3, 6);
        fault("under bare", 1, 6);
        fault("worth 5", 1, 6);
        fault("worth", 1, 5);
        fault("worth <", 1, 7);
        fault("worth ( 5", 1, 6);
        fault("worth = = 5", 1, 8);
        fault("worth = ann", 1, 8);
        fault("worth = 1000", 1, 8);
        fault("worth =5a", 1, 7);
        fault("worth=5and bare", 1, 6);
        fault("day = 5", 1, 0);
        fault("bare. ", 1, 4);
    }

    private static void counted() {
        ones("bare", 1);
        ones("not bare", 2);
        ones("(bare)", 2);
        ones("worth<5 and cloth>0 or not(of ann and(held))", 7);
        ones("worth=999\nand\nnumber=000", 2);
        ones("(((((((bare)))))))", 8);
        ones("not not not not not not not bare", 8);
        ones("not(not(not(not bare)))", 8);
        ones("(not(not(not bare))and not(not bare))or held", 12);
    }

    private static void tooMany() {
        String twenty = "bare" + " and bare".repeat(9) + " or held".repeat(10);
        ones(twenty, 20);
        fault(twenty + " or held", 4, twenty.length() + 4);
        fault(twenty + " and ( (", 4, twenty.length() + 5);
        fault(twenty + " and 5", 1, twenty.length() + 5);
        fault(twenty + " and ann", 1, twenty.length() + 5);
        fault(twenty + " and", 1, twenty.length() + 4);
        fault("((((((((bare))))))))", 4, 8);
        fault("not not not not not not not not bare", 4, 32);
        fault("((((((((ann", 1, 8);
        fault("(((((((( ", 1, 9);
        fault("(((((((of nobody", 3, 10);
        fault("(bare) and not (not (not (not not of bob and bare)))", 4, 34);
    }

    private static void tooLong() {
        ones("bare" + " ".repeat(196), 1);
        fault("bare" + " ".repeat(197), 1, 200);
        fault("bare or" + " ".repeat(192) + "held", 1, 200);
        fault("bare or" + " ".repeat(192) + "hell", 1, 199);
        fault("bare or" + " ".repeat(193) + "hell", 1, 200);
        fault("under" + " ".repeat(194) + "ann", 3, 199);
    }

    private static void said() {
        HeldCoats x = Kit.court();
        Kit.due("39: no sentence", x.said(NONE), NONE);
        Kit.due("39: no sentence", x.said(0), NONE);
        x.lay(1, 0);
        x.days(2);
        x.lay(2, 2);
        saidIs(x, "bare", 2);
        saidIs(x, "held", 5);
        saidIs(x, "of ann", 1);
        saidIs(x, "of bob", 4);
        saidIs(x, "of cid", 0);
        saidIs(x, "under cape", 1);
        saidIs(x, "under rug", 4);
        saidIs(x, "under fur", 0);
        saidIs(x, "worth > 5", 3);
        saidIs(x, "worth < 20", 4);
        saidIs(x, "worth = 20", 2);
        saidIs(x, "days = 2", 1);
        saidIs(x, "days = 0", 6);
        saidIs(x, "cloth = 24", 1);
        saidIs(x, "cloth = 0", 2);
        saidIs(x, "cloth > 24", 4);
        saidIs(x, "number > 0", 6);
        saidIs(x, "number < 1", 1);
        saidIs(x, "not bare", 5);
        saidIs(x, "not held or held", 7);
        saidIs(x, "not held and held", 0);
        saidIs(x, "bare or held and of bob", 6);
        saidIs(x, "(bare or held) and of bob", 4);
        saidIs(x, "not bare and of bob", 4);
        saidIs(x, "not (bare and of bob)", 7);
        saidIs(x, "of bob and held or bare", 6);
        saidIs(x, "not not bare", 2);
        Kit.due("39: how many", x.said(NONE), 1);
        Kit.due("39: the first", x.said(0), 1);
        Kit.due("39: none such", x.said(1), NONE);
        Kit.due("39: none such", x.said(-2), NONE);
        Kit.due("39: none such", x.said(Integer.MAX_VALUE), NONE);
        x.days(2);
        saidIs(x, "held", 0);
        saidIs(x, "of bob", 0);
        saidIs(x, "under rug", 4);
        saidIs(x, "bare", 3);
        HeldCoats y = Kit.of("man m 0;");
        Kit.sentence(y, "bare");
        Kit.due("39: no seats", y.said(NONE), 0);
    }

    private static void stays() {
        HeldCoats x = Kit.court();
        Kit.sentence(x, "bare and worth > 5");
        Kit.due("38: a fault", Kit.sentence(x, "held or"), -1 - 7);
        Kit.due("5: a fault", x.fault(), 1);
        Kit.due("38: the tape is empty then", x.count(7), 0);
        Kit.due("38: it stays", x.said(NONE), 2);
        x.lay(0, 0);
        Kit.due("39: of what is so now", x.said(0), 1);
        Kit.sentence(x, "held");
        Kit.due("5: mended", x.fault(), 0);
        Kit.due("38: another one", x.said(0), 0);
    }

    private static void saidIs(HeldCoats x, String text, int want) {
        Kit.due("39: said of " + text, Kit.said(x, text), want);
    }

    private static void ones(String text, int want) {
        HeldCoats x = Kit.court();
        Kit.due("38: sentence " + text, Kit.sentence(x, text), want);
        Kit.due("5: fault of " + text, x.fault(), 0);
    }

    private static void fault(String text, int kind, int place) {
        HeldCoats x = Kit.court();
        Kit.due("38: sentence " + text, Kit.sentence(x, text), -1 - place);
        Kit.due("5: fault of " + text, x.fault(), kind);
        Kit.due("39: none yet " + text, x.said(NONE), NONE);
    }
}
