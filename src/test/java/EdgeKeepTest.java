/** The bounds of promises 36 to 42, and what a new CAPITAL, a BOOK, a SENTENCE and an image change and leave. */
public final class EdgeKeepTest {
    private static final int NONE = HeldCoats.NONE;
    private static final int[] FAR = {-2, 8, 9, 31, 32, 1000, Integer.MIN_VALUE, Integer.MAX_VALUE};

    public static void main(String[] args) {
        otherLives();
        whyWrong();
        linesFromNought();
        daysOfABook();
        judgedOrLived();
        undoneBooks();
        toldBounds();
        toldOfTheLatest();
        signs();
        sayings();
        joined();
        asLongAsMayBe();
        saidBounds();
        sentencesStayOrGo();
        capitalsAnew();
        imageBounds();
        imagesKeepAll();
        restoreLeaves();
        counts();
        Kit.finish("EdgeKeepTest");
    }

    private static void otherLives() {
        for (int lives : new int[] {-1, 2, 3, Integer.MIN_VALUE, Integer.MAX_VALUE}) {
            HeldCoats x = Kit.busy();
            Kit.sentence(x, "of sofa");
            Kit.write(x, "cape kept;");
            String last = Kit.last(x);
            Kit.due("36: another lives", x.book(lives), -1000);
            Kit.due("36: the tape, the FAULT, what was told stay", Kit.last(x).equals(last), true);
            Kit.due("36: nothing is lived", x.coat(1, 3), 0);
            Kit.due("36: the tape as it was", x.book(1), NONE);
            Kit.due("36: lived", x.coat(1, 3), 20);
        }
    }

    /** Each reason why not, as a BOOK tells it; court: fur ann, cape ann, rug bob, shawl cid. */
    private static void whyWrong() {
        wrong("fur lies throne;fur lies bench;", 1, 1);
        wrong("fur kept;fur lies bench;", 1, 1);
        wrong("fur lies throne;fur lies throne;", 1, 1);
        wrong("fur lies throne;rug lies throne;", 1, 2);
        wrong("ann wears fur;", 0, 11);
        wrong("bob wears fur;", 0, 11);
        wrong("fur kept;bob wears fur;", 1, 12);
        wrong("fur lies stool;cid wears fur;", 1, 12);
        wrong("fur lent ann;", 0, 22);
        wrong("fur lent bob;fur lent bob;", 1, 22);
        wrong("fur kept;fur kept;", 1, 31);
        wrong("fur lies stool;fur kept;", 1, 31);
        wrong("fur lies stool;day 3;fur lies stool;", 2, 1);
        wrong("fur lies stool;day 3;ann wears fur;", 2, 11);
        wrong("fur lies stool;day 3;fur lent bob;", 2, 21);
        wrong("fur lies stool;day 3;fur lent ann;", 2, 21);
        wrong("fur lies stool;day 3;fur kept;", 2, 31);
        wrong("fur lies stool;day 2;ann wears fur;", NONE, 0);
        wrong("fur lies stool;day 2;fur lent bob;bob wears fur;fur kept;bob wears fur;", NONE, 0);
    }

    private static void wrong(String text, int line, int why) {
        for (int lives = 0; lives < 2; lives++) {
            HeldCoats x = Kit.court();
            Kit.due("36: " + text, Kit.book(x, text, lives), line);
            Kit.due("37: why: " + text, x.told(0), why);
            Kit.due("37: LINES that are not: " + text, x.told(1), line == NONE ? text.split(";").length : line);
        }
    }

    private static void linesFromNought() {
        for (int good : new int[] {0, 1, 38, 39}) {
            HeldCoats x = Kit.court();
            Kit.due("36: the LINE that is WRONG", Kit.book(x, "day 1;".repeat(good) + "fur lent ann;" + "day 1;".repeat(39 - good), 1), good);
            Kit.due("37: LINES that are not", x.told(1), good);
            Kit.due("37: the DAY then", x.told(2), good);
            Kit.due("9: no farther", x.now(0), good);
        }
    }

    private static void daysOfABook() {
        for (int day : new int[] {339, 340, 341, 399, 400}) {
            for (int n : new int[] {1, 60}) {
                HeldCoats x = Kit.later(Kit.COURT, day);
                boolean enough = day + n <= 400;
                Kit.due("36: day " + n + " on DAY " + day, Kit.book(x, "day " + n + ";", 1), enough ? NONE : 0);
                Kit.due("37: 41: fewer DAYS are left", x.told(0), enough ? 0 : 41);
                Kit.due("37: the DAY then", x.told(2), enough ? day + n : day);
                Kit.due("9: the DAY", x.now(0), enough ? day + n : day);
            }
        }
        HeldCoats y = Kit.of("seat s 1;man m 0;coat a m 0 3;");
        y.days(4);
        Kit.book(y, "day 2;a lies s;day 5;", 0);
        Kit.due("37: BARE DAYS in it, not those ahead of it", y.told(3), 4);
        Kit.due("37: the DAY then", y.told(2), 11);
        Kit.book(y, "a lies s;day 3;", 0);
        Kit.due("37: no BARE DAY", y.told(3), 0);
    }

    private static void judgedOrLived() {
        String text = "cape lies bench;rug lent ann;ann wears shawl;";
        Kit.leavesState("36: judged, all staying as it is", x -> Kit.book(x, "cape lies bench;day 9;rug lent ann;ann wears shawl;", 0), 3);
        Kit.leavesState("36: judged without a LINE", x -> Kit.book(x, "", 0), NONE);
        Kit.leavesState("36: a FAULT, judged", x -> Kit.book(x, text + "day 0;", 0), -2 - text.length() - 4);
        Kit.leavesState("36: a FAULT, lived", x -> Kit.book(x, text + "day 0;", 1), -2 - text.length() - 4);
        HeldCoats x = Kit.busy();
        Kit.due("36: lived as far as it is not WRONG", Kit.book(x, text + "cape kept;", 1), 2);
        Kit.due("36: the first LINE", x.coat(1, 3), 11);
        Kit.due("36: the second LINE", x.coat(2, 4), 0);
        Kit.due("36: the WRONG one", x.coat(3, 3), 20);
        Kit.due("36: none behind it", x.coat(1, 3), 11);
        // judged from what is so now, each time
        HeldCoats y = Kit.court();
        Kit.due("36: judged", Kit.book(y, "fur lies throne;", 0), NONE);
        Kit.due("36: judged again", Kit.book(y, "fur lies throne;", 0), NONE);
        Kit.due("36: lived", Kit.book(y, "fur lies throne;", 1), NONE);
        Kit.due("36: judged by what is so", Kit.book(y, "fur lies throne;", 0), 0);
    }

    private static void undoneBooks() {
        HeldCoats x = Kit.court();
        Kit.book(x, "fur lies throne;day 3;rug kept;", 1);
        Kit.book(x, "day 5;rug kept;", 1);
        Kit.due("15: as far as it was lived", x.undo(), 1);
        Kit.due("15: DAY", x.now(0), 3);
        Kit.due("15: one act in all", x.undo(), 0);
        Kit.due("15: DAY", x.now(0), 0);
        Kit.due("15: fur", x.coat(0, 3), 0);
        Kit.due("15: rug", x.coat(2, 3), 1);
        Kit.due("15: none", x.undo(), NONE);
        for (int k = 0; k < 9; k++) {
            Kit.book(x, "day 1;day 1;", 1);
        }
        for (int k = 7; k >= 0; k--) {
            Kit.due("15: eight BOOKS at most", x.undo(), k);
        }
        Kit.due("15: the first stays", x.now(0), 2);
        Kit.book(x, "", 1);
        Kit.due("15: one without LINES was lived, too", x.undo(), 0);
        Kit.book(x, "fur lent ann;", 1);
        Kit.due("15: one that was WRONG at once, too", x.undo(), 0);
    }

    private static void toldBounds() {
        HeldCoats x = Kit.court();
        for (int what = 0; what < 4; what++) {
            Kit.due("37: ahead of any", x.told(what), NONE);
        }
        x.book(7);
        Kit.book(x, "x", 0);
        for (int what = 0; what < 4; what++) {
            Kit.due("37: a FAULT and -1000 are none", x.told(what), NONE);
        }
        Kit.book(x, "day 1;", 0);
        for (int what = 0; what < 4; what++) {
            Kit.due("37: told(" + what + ")", x.told(what), what == 0 ? 0 : 1);
        }
        Kit.due("37: what 4", x.told(4), NONE);
        Kit.due("37: what -1", x.told(-1), NONE);
        for (int what : FAR) {
            Kit.due("37: another what", x.told(what), NONE);
        }
    }

    private static void toldOfTheLatest() {
        HeldCoats x = Kit.court();
        Kit.book(x, "day 2;fur lent ann;", 0);
        told(x, 22, 1, 2, 2);
        Kit.book(x, "day 0;", 0);
        told(x, 22, 1, 2, 2);
        x.book(2);
        told(x, 22, 1, 2, 2);
        x.days(5);
        x.undo();
        told(x, 22, 1, 2, 2);
        Kit.book(x, "", 1);
        told(x, 0, 0, 0, 0);
        Kit.book(x, "fur lies throne;day 6;", 1);
        told(x, 0, 2, 6, 3);
        Kit.capital(x, "");
        told(x, 0, 2, 6, 3);
    }

    private static void told(HeldCoats x, int... want) {
        for (int what = 0; what < 4; what++) {
            Kit.due("37: told(" + what + ")", x.told(what), want[what]);
        }
    }

    /** Each SIGN one below, at and one above. */
    private static void signs() {
        HeldCoats x = Kit.of("seat s 5;seat t 6;seat u 7;man m 0;coat a m 0 9;coat b m 0 9;coat c m 0 9;moths 2;");
        x.lay(0, 0);
        x.days(1);
        x.lay(1, 1);
        x.days(1);
        x.lay(2, 2);
        int[] row = {5, 6, 7};
        compare(x, "worth", row);
        compare(x, "days", new int[] {2, 1, 0});
        compare(x, "cloth", new int[] {5, 7, 9});
        compare(x, "number", new int[] {0, 1, 2});
        HeldCoats y = Kit.court();
        compare(y, "days", new int[] {0, 0, 0});
        compare(y, "cloth", new int[] {0, 0, 0});
        HeldCoats z = Kit.of("seat s 99;seat t 1;man m 0;coat a m 0 99;moths 0;holds 30;");
        z.lay(0, 0);
        z.days(29);
        compare(z, "worth", new int[] {99, 1});
        compare(z, "cloth", new int[] {99, 0});
        compare(z, "days", new int[] {29, 0});
    }

    private static void compare(HeldCoats x, String word, int[] row) {
        String[] sign = {"<", "=", ">"};
        for (int value : row) {
            for (int n = Math.max(0, value - 1); n <= value + 1; n++) {
                for (String is : sign) {
                    int want = 0;
                    for (int s = 0; s < row.length; s++) {
                        boolean so = is.equals("<") ? row[s] < n : is.equals("=") ? row[s] == n : row[s] > n;
                        want |= so ? 1 << s : 0;
                    }
                    if (n == value || row.length == 2) {
                        Kit.due("39: " + word + is + n, said(x, word + is + n), want);
                    }
                }
            }
        }
    }

    /** As Kit.said, with few calls: an object is used for 512 of them at most. */
    private static int said(HeldCoats x, String text) {
        Kit.sentence(x, text);
        int many = x.said(NONE);
        int bits = 0;
        for (int k = 0; k < many; k++) {
            bits |= 1 << x.said(k);
        }
        return bits;
    }

    private static void sayings() {
        HeldCoats x = Kit.of("seat s 1;seat t 1;seat u 1;man m 0;man n 0;coat a m 0 9;coat b n 0 9;cold 0 5;cold 1 4;cold 2 5;summer 5;");
        x.lend(1, 0);
        x.lay(0, 0);
        x.lay(1, 1);
        int[][] want = {{4, 3, 1, 2, 1, 2}, {4, 0, 0, 0, 1, 2}, {4, 3, 1, 2, 1, 2}};
        String[] texts = {"bare", "held", "of m", "of n", "under a", "under b"};
        for (int day = 0; day < 3; day++) {
            for (int k = 0; k < texts.length; k++) {
                Kit.due("39: DAY " + day + ": " + texts[k], said(x, texts[k]), want[day][k]);
            }
            x.days(1);
        }
        x.wear(0, 0);
        Kit.due("39: bare again", said(x, "bare"), 5);
        Kit.due("39: not under it", said(x, "under a"), 0);
        HeldCoats full = Kit.full();
        full.lay(7, 7);
        Kit.due("39: the last MAN", said(full, "of mf"), 128);
        Kit.due("39: the last COAT", said(full, "under ch"), 128);
        Kit.due("39: the last SEAT", said(full, "number = 7"), 128);
        Kit.due("39: none behind", said(full, "number > 7"), 0);
        Kit.due("39: all but it", said(full, "bare"), 127);
        Kit.due("39: all", said(full, "bare or not bare"), 255);
    }

    /** 'and' binds closer than 'or', 'not' closer than both; checked by each of the eight SEATS, one for each way three can be so. */
    private static void joined() {
        HeldCoats x = Kit.of("seat sa 11;seat sb 12;seat sc 21;seat sd 22;seat se 13;seat sf 14;seat sg 23;seat sh 24;");
        String a = "number > 3";
        String b = "worth > 20";
        String c = "(worth=12 or worth=14 or worth=22 or worth=24)";
        for (int way = 0; way < 12; way++) {
            int want = 0;
            for (int s = 0; s < 8; s++) {
                boolean p = s > 3;
                boolean q = (s & 2) != 0;
                boolean r = (s & 1) != 0;
                boolean so = switch (way) {
                    case 0 -> p || q && r;
                    case 1 -> p && q || r;
                    case 2 -> (p || q) && r;
                    case 3 -> p && (q || r);
                    case 4 -> !p && q || r;
                    case 5 -> !(p && q) || r;
                    case 6 -> p || !q && r;
                    case 7 -> p && !q || !r;
                    case 8 -> p && !(q || !r);
                    case 9 -> p && q && !r;
                    case 10 -> p || q || !r;
                    default -> !!p && !(!q || r && p);
                };
                want |= so ? 1 << s : 0;
            }
            String text = switch (way) {
                case 0 -> a + " or " + b + " and " + c;
                case 1 -> a + " and " + b + " or " + c;
                case 2 -> "(" + a + " or " + b + ") and " + c;
                case 3 -> a + " and (" + b + " or " + c + ")";
                case 4 -> "not " + a + " and " + b + " or " + c;
                case 5 -> "not (" + a + " and " + b + ") or " + c;
                case 6 -> a + " or not " + b + " and " + c;
                case 7 -> a + " and not " + b + " or not " + c;
                case 8 -> a + " and not (" + b + " or not " + c + ")";
                case 9 -> a + " and " + b + " and not " + c;
                case 10 -> a + " or " + b + " or not " + c;
                default -> "not not " + a + " and not (not " + b + " or " + c + " and " + a + ")";
            };
            Kit.due("39: " + text, said(x, text), want);
        }
    }

    private static void asLongAsMayBe() {
        HeldCoats x = Kit.full();
        x.lay(1, 2);
        Kit.due("38: twenty ONES", Kit.sentence(x, "held" + " or held".repeat(18) + " or bare"), 20);
        Kit.due("39: the last one counts", x.said(NONE), 8);
        Kit.due("38: twenty ONES", Kit.sentence(x, "bare" + " and bare".repeat(18) + " and held"), 20);
        Kit.due("39: the last one counts", x.said(NONE), 0);
        Kit.due("38: twenty ONES", Kit.sentence(x, "held or bare and " + "held or held and ".repeat(8) + "bare or held"), 20);
        Kit.due("39: as they stand", x.said(NONE), 1);
        Kit.due("38: twenty, each within a not", Kit.sentence(x, "not number=0" + " and not number=1".repeat(9)), 20);
        Kit.due("39: all but two", x.said(NONE), 6);
        Kit.due("39: the first of them", x.said(0), 2);
        Kit.due("38: eight within", Kit.sentence(x, "not(not(not(not number=5)))"), 8);
        Kit.due("39: four times not", x.said(0), 5);
        Kit.due("39: four times not", x.said(NONE), 1);
        String deep = "number=0 or(number=1 or(number=2 or(number=3 or(number=4 or(number=5 or(number=6 or number=7))))))";
        Kit.due("38: brackets at the end", Kit.sentence(x, deep), 14);
        Kit.due("39: all eight", x.said(NONE), 8);
        Kit.due("38: brackets with and", Kit.sentence(x, deep.replace("or(", "and(")), 14);
        Kit.due("39: none", x.said(NONE), 0);
        Kit.due("38: brackets with both", Kit.sentence(x, deep.replace("=5 or(", "<9 and(").replace("=3 or(", "<9 and(")), 14);
        Kit.due("39: as they stand", said(x, deep.replace("=5 or(", "<9 and(").replace("=3 or(", "<9 and(")), 1 + 2 + 4 + 16 + 64 + 128);
    }

    private static void saidBounds() {
        HeldCoats x = Kit.court();
        Kit.due("39: no SENTENCE", x.said(NONE), NONE);
        Kit.due("39: no SENTENCE", x.said(0), NONE);
        Kit.due("38: a FAULT is none", Kit.sentence(x, "bare or"), -8);
        Kit.due("39: no SENTENCE", x.said(NONE), NONE);
        Kit.sentence(x, "number > 0");
        Kit.due("39: how many", x.said(NONE), 2);
        Kit.due("39: the first", x.said(0), 1);
        Kit.due("39: the last", x.said(1), 2);
        Kit.due("39: one too many", x.said(2), NONE);
        for (int k : FAR) {
            Kit.due("39: none such", x.said(k), NONE);
        }
        Kit.sentence(x, "held");
        Kit.due("39: 0 of them", x.said(NONE), 0);
        Kit.due("39: no first", x.said(0), NONE);
        HeldCoats none = new HeldCoats();
        Kit.sentence(none, "bare or not bare");
        Kit.due("39: no SEATS", none.said(NONE), 0);
        Kit.due("39: no SEATS", none.said(0), NONE);
        HeldCoats full = Kit.full();
        Kit.sentence(full, "bare");
        for (int k = 0; k < 8; k++) {
            Kit.due("39: the k-th", full.said(k), k);
        }
        Kit.due("39: no ninth", full.said(8), NONE);
    }

    private static void sentencesStayOrGo() {
        Kit.leavesState("38: a FAULT leaves it", x -> Kit.sentence(x, "bare and of sofa"), -1 - 12);
        Kit.leavesState("4: a FAULT leaves it and all", x -> Kit.capital(x, "seat throne 5;seat throne 5;"), -1 - 19);
        HeldCoats x = Kit.busy();
        Kit.due("39: two", x.said(NONE), 2);
        Kit.due("38: another one", Kit.sentence(x, "number < 1"), 1);
        Kit.due("39: one", x.said(NONE), 1);
        x.days(3);
        x.undo();
        x.drawn(3, 3);
        Kit.book(x, "day 1;", 1);
        Kit.due("39: it stays", x.said(NONE), 1);
        Kit.capital(x, Kit.COURT);
        Kit.due("39: a new CAPITAL has none", x.said(NONE), NONE);
        // NAMES of a SENTENCE are those that were told when it was
        HeldCoats y = Kit.court();
        y.lay(2, 0);
        Kit.sentence(y, "of bob and under rug");
        Kit.due("39: his", y.said(0), 0);
    }

    private static void capitalsAnew() {
        HeldCoats fresh = Kit.of("seat s 1;man m 1;coat a m 2 3;");
        HeldCoats x = Kit.busy();
        x.lend(1, 2);
        x.drawn(30, 4);
        Kit.due("4: a new one", Kit.capital(x, "seat s 1;man m 1;coat a m 2 3;"), 3);
        Kit.due("4: DAY 0, all COATS worn, no HARM, no SENTENCE", Kit.all(x).equals(Kit.all(fresh)), true);
        Kit.due("15: nothing was done yet", x.undo(), NONE);
        HeldCoats y = Kit.busy();
        Kit.due("4: an empty one", Kit.capital(y, ""), 0);
        Kit.due("4: no SEATS, MEN, COATS", y.count(0) + y.count(1) + y.count(2), 0);
        Kit.due("9: DAY 0", y.now(0), 0);
        Kit.due("9: no BARE DAYS", y.now(4), 0);
        Kit.due("9: none in the cloakroom", y.now(6), 0);
        Kit.due("9: COLD 0", y.now(1), 0);
        Kit.due("21: nobody", y.queue(0), NONE);
        Kit.refused("7: nobody", () -> y.man(0, 0));
        Kit.refused("8: nothing", () -> y.coat(0, 0));
        Kit.due("14: its DAYS", y.days(1), 1);
        Kit.due("9: BARE", y.now(5), 0);
        HeldCoats z = Kit.court();
        Kit.write(z, Kit.COURT);
        Kit.due("4: the tape is empty then", z.capital() * 1000 + z.count(7), 16000);
        Kit.write(z, "seat");
        Kit.due("4: the tape is empty then, with a FAULT, too", z.capital() * 1000 - z.count(7), -5000);
        Kit.write(z, "day 1;");
        z.book(0);
        Kit.due("36: the tape is empty then", z.count(7), 0);
        Kit.write(z, "day 0;");
        z.book(0);
        Kit.due("36: the tape is empty then, with a FAULT, too", z.count(7), 0);
        Kit.write(z, "bare");
        z.sentence();
        Kit.due("38: the tape is empty then", z.count(7), 0);
        Kit.write(z, "bare)");
        z.sentence();
        Kit.due("38: the tape is empty then, with a FAULT, too", z.count(7), 0);
    }

    private static void imageBounds() {
        HeldCoats x = Kit.court();
        for (int k : new int[] {-1, 2, 3, Integer.MIN_VALUE, Integer.MAX_VALUE}) {
            Kit.due("40: no such place", x.image(k), false);
            Kit.due("41: no such place", x.restore(k), false);
        }
        Kit.due("41: nothing is kept there", x.restore(0), false);
        Kit.due("41: nothing is kept there", x.restore(1), false);
        x.days(1);
        Kit.due("40: place 0", x.image(0), true);
        Kit.due("41: place 1 is empty yet", x.restore(1), false);
        Kit.due("15: a restore() of false leaves the acts", x.undo(), 0);
        Kit.due("41: place 0", x.restore(0), true);
        Kit.due("41: DAY", x.now(0), 1);
        x.days(1);
        Kit.due("40: place 1", x.image(1), true);
        x.days(1);
        Kit.due("41: place 0", x.restore(0), true);
        Kit.due("41: DAY", x.now(0), 1);
        Kit.due("41: place 1", x.restore(1), true);
        Kit.due("41: DAY", x.now(0), 2);
        x.image(0);
        x.days(5);
        Kit.due("41: place 0 anew", x.restore(0), true);
        Kit.due("41: DAY", x.now(0), 2);
        Kit.leavesAll("40: image of false", y -> y.image(2) ? 1 : 0, 0);
        Kit.leavesAll("41: restore of false, no such place", y -> y.restore(2) ? 1 : 0, 0);
        Kit.leavesAll("41: restore of false, nothing kept", y -> y.restore(1) ? 1 : 0, 0);
        Kit.leavesAll("40: image", y -> y.image(1) ? 1 : 0, 1);
    }

    private static void imagesKeepAll() {
        HeldCoats x = new HeldCoats();
        Kit.due("40: an empty CAPITAL is kept, too", x.image(0), true);
        Kit.capital(x, Kit.COURT);
        x.days(3);
        x.image(1);
        Kit.due("41: restored", x.restore(0), true);
        Kit.due("41: no SEATS", x.count(0), 0);
        Kit.due("41: DAY", x.now(0), 0);
        Kit.due("41: restored", x.restore(1), true);
        Kit.due("41: SEATS", x.count(0), 3);
        Kit.due("41: DAY", x.now(0), 3);
        HeldCoats y = Kit.busy();
        y.image(0);
        String before = Kit.all(y);
        Kit.capital(y, "man ann 5;seat throne 3;");
        Kit.sentence(y, "not bare");
        y.days(9);
        Kit.due("41: restored", y.restore(0), true);
        Kit.due("41: as kept", Kit.all(y).equals(before), true);
        Kit.due("41: the SENTENCE", y.said(0) * 10 + y.said(1), 1);
        Kit.due("41: NAMES", Kit.book(y, "ann wears fur;day 1;shawl lent bob;", 1), NONE);
        Kit.due("41: what is kept is not lived on", y.restore(0), true);
        Kit.due("41: as kept", Kit.all(y).equals(before), true);
    }

    private static void restoreLeaves() {
        HeldCoats x = Kit.court();
        x.days(1);
        x.image(0);
        x.days(1);
        x.best(0, 25);
        x.share(0, 1, 2, 3);
        Kit.hooks(x, 0, 9, 1);
        x.rounds();
        Kit.book(x, "day 2;fur lent ann;", 0);
        Kit.capital(x, "seat z 0;");
        Kit.write(x, "bare");
        String last = Kit.last(x);
        Kit.due("41: restored", x.restore(0), true);
        Kit.due("41: the tape, and what other calls told last, stays", Kit.last(x).equals(last), true);
        Kit.due("41: the tape's bytes stay", x.sentence(), 1);
        Kit.due("41: nothing can be undone", x.undo(), NONE);
        Kit.due("41: DAY", x.now(0), 1);
        for (int k = 0; k < 9; k++) {
            x.days(1);
        }
        x.restore(0);
        Kit.due("41: nothing of nine", x.undo(), NONE);
        x.days(1);
        Kit.due("15: acts from then on", x.undo(), 0);
        Kit.due("15: and none ahead", x.undo(), NONE);
    }

    private static void counts() {
        HeldCoats x = Kit.full();
        int[] want = {8, 6, 8, 10, 9, 1, 999, 0};
        for (int what = 0; what < 8; what++) {
            Kit.due("42: count(" + what + ")", x.count(what), want[what]);
        }
        Kit.due("42: what 8", x.count(8), NONE);
        Kit.due("42: what -1", x.count(-1), NONE);
        for (int what : FAR) {
            Kit.due("42: another what", x.count(what), NONE);
        }
        x.feed(0, 0, 0, 0, 0);
        Kit.due("42: bytes", x.count(7), 20);
        x.end(1);
        Kit.due("42: bytes", x.count(7), 1);
        x.end(0);
        Kit.due("42: bytes", x.count(7), 0);
        x.lay(0, 0);
        x.days(1);
        Kit.due("42: eaten COATS are COATS", x.count(2), 8);
    }
}
