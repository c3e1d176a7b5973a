import java.util.Arrays;
import java.util.NoSuchElementException;

/**
 * A capital whose seats are held by the coats that lie on them.
 * What each call answers stands in DOC.md, promise by promise; words in capitals here are its terms.
 */
public final class HeldCoats {
    public static final int NONE = -1;

    private static final int SEATS_MOST = 8;
    private static final int MEN_MOST = 6;
    private static final int COATS_MOST = 8;
    private static final int COLDS_MOST = 8;
    private static final int NAMES_MOST = 22;
    private static final int DAYS_IN_ALL = 400;
    private static final int DAYS_A_CALL = 60;

    private static final int ON_SEAT = 10;
    private static final int CLOAKROOM = 20;
    private static final int EATEN = 30;

    private static final int TAPE_BYTES = 940;
    private static final int CAPITAL_BYTES = 900;
    private static final int BOOK_BYTES = 400;
    private static final int SENTENCE_BYTES = 200;
    private static final int BOOK_LINES = 40;
    private static final int ONES_MOST = 20;
    private static final int WITHIN_MOST = 8;
    private static final int UNDO_MOST = 8;
    private static final int IMAGES = 2;

    private static final int FAULT_TOKEN = 1;
    private static final int FAULT_NUMBER = 2;
    private static final int FAULT_NAME = 3;
    private static final int FAULT_MANY = 4;

    /** Every WORD that is no NAME; the numbers below are the places in this row. */
    private static final String WORDS =
        "seat man coat cold summer holds moths limit lies lent kept wears day or and not bare held of under worth days cloth number ";
    private static final int WORDS_IN_ALL = 24;
    private static final int SEAT = 0;
    private static final int MAN = 1;
    private static final int COAT = 2;
    private static final int COLD = 3;
    private static final int SUMMER = 4;
    private static final int HOLDS = 5;
    private static final int MOTHS = 6;
    private static final int LIMIT = 7;
    private static final int LIES = 8;
    private static final int LENT = 9;
    private static final int KEPT = 10;
    private static final int WEARS = 11;
    private static final int DAY = 12;
    private static final int OR = 13;
    private static final int AND = 14;
    private static final int NOT = 15;
    private static final int BARE = 16;
    private static final int HELD = 17;
    private static final int OF = 18;
    private static final int UNDER = 19;
    private static final int WORTH = 20;
    private static final int LAIN = 21;
    private static final int CLOTH = 22;
    private static final int NUMBER = 23;

    private final Tape tape;
    private final Law law;
    private final LawReader lawReader;
    private final State state;
    private final Past past;
    private final Sentence sentence;
    private final SentenceReader sentenceReader;
    private final Book script;
    private final Counsel counsel;
    private final Image[] images;
    private int latestFault;

    public HeldCoats() {
        tape = new Tape();
        law = new Law();
        lawReader = new LawReader(tape);
        state = new State(law);
        past = new Past(law);
        sentence = new Sentence();
        sentenceReader = new SentenceReader(tape);
        script = new Book();
        counsel = new Counsel(law, state);
        images = new Image[IMAGES];
        for (int k = 0; k < IMAGES; k++) {
            images[k] = new Image();
        }
    }

    public int feed(int a, int b, int c, int d, int e) {
        if (tape.size > TAPE_BYTES - 20) {
            return NONE;
        }
        tape.addNumber(a);
        tape.addNumber(b);
        tape.addNumber(c);
        tape.addNumber(d);
        tape.addNumber(e);
        return tape.size;
    }

    public boolean end(int n) {
        if (n < 0 || n > tape.size) {
            return false;
        }
        tape.size = n;
        return true;
    }

    public int capital() {
        boolean good = lawReader.readText();
        closeTape();
        if (!good) {
            return -1 - tape.faultPlace;
        }
        law.copyFrom(lawReader.draft);
        state.begin();
        sentence.clear();
        past.clear();
        return lawReader.lines;
    }

    public int fault() {
        return latestFault;
    }

    public int seat(int s, int what) {
        if (!law.hasSeat(s)) {
            return NONE;
        }
        switch (what) {
            case 0:
                return law.worth[s];
            case 1:
                return state.coatOn(s);
            case 2:
                return state.holderOf(s);
            case 3:
                return state.daysLainOn(s);
            default:
                return NONE;
        }
    }

    public int man(int m, int what) throws NoSuchElementException {
        if (!law.hasMan(m)) {
            throw new NoSuchElementException();
        }
        switch (what) {
            case 0:
                return law.hardy[m];
            case 1:
                return state.chillOf(m);
            case 2:
                return state.harm[m];
            case 3:
                return state.wornBy(m);
            case 4:
                return state.seatsHeldBy(m);
            case 5:
                return state.worthHeldBy(m);
            case 6:
                return state.ruled[m];
            case 7:
                return state.uneatenOf(m);
            default:
                throw new NoSuchElementException();
        }
    }

    public int coat(int c, int what) throws NoSuchElementException {
        if (!law.hasCoat(c)) {
            throw new NoSuchElementException();
        }
        switch (what) {
            case 0:
                return law.owner[c];
            case 1:
                return law.warmth[c];
            case 2:
                return state.cloth[c];
            case 3:
                return state.where[c];
            case 4:
                return state.user[c];
            default:
                throw new NoSuchElementException();
        }
    }

    public int now(int what) {
        switch (what) {
            case 0:
                return state.day;
            case 1:
                return law.coldOn(state.day);
            case 2:
                return law.isSummer(state.day) ? 1 : 0;
            case 3:
                return state.ruler();
            case 4:
                return state.bareDays;
            case 5:
                return state.firstBare;
            case 6:
                return state.queued;
            case 7:
                return state.eaten();
            default:
                return NONE;
        }
    }

    public int lay(int c, int s) {
        if (!law.hasCoat(c) || !law.hasSeat(s)) {
            return NONE;
        }
        past.mark(state);
        return undoableIfDone(state.tryLay(c, s));
    }

    public int wear(int m, int c) {
        if (!law.hasMan(m) || !law.hasCoat(c)) {
            return NONE;
        }
        past.mark(state);
        return undoableIfDone(state.tryWear(m, c));
    }

    public int lend(int c, int m) {
        if (!law.hasCoat(c) || !law.hasMan(m)) {
            return NONE;
        }
        past.mark(state);
        return undoableIfDone(state.tryLend(c, m));
    }

    public int keep(int c) {
        if (!law.hasCoat(c)) {
            return NONE;
        }
        past.mark(state);
        return undoableIfDone(state.tryKeep(c));
    }

    public int days(int n) {
        if (!isDays(n)) {
            return NONE;
        }
        past.mark(state);
        return undoableIfAny(state.passDays(n));
    }

    public int undo() {
        return past.takeBack(state) ? past.size : NONE;
    }

    public int best(int m, int h) {
        if (!law.hasMan(m) || h < 0 || h > 999) {
            return NONE;
        }
        return counsel.mostWorth(m, h);
    }

    public int laid() {
        return counsel.latestLaid;
    }

    public int share(int m, int o, int c, int n) {
        if (!law.hasMan(m) || !law.hasMan(o) || m == o || !law.hasCoat(c)) {
            return NONE;
        }
        if (n < 1 || n > 30 || state.where[c] == EATEN) {
            return NONE;
        }
        return counsel.leastSharedHarm(m, o, c, n);
    }

    public int turns() {
        return counsel.latestTurns;
    }

    public int ahead(int c) {
        return law.hasCoat(c) ? state.queuePlaceOf(c) : NONE;
    }

    public int queue(int k) {
        return k >= 0 && k < state.queued ? state.line[k] : NONE;
    }

    public int bribes(int set) {
        if ((set & ~state.inCloakroom()) != 0) {
            return NONE;
        }
        return counsel.fewestBribes(set);
    }

    public int frost(int m, int o) {
        if (!law.hasMan(m) || !law.hasMan(o) || m == o || !counsel.freezeOut(m, o)) {
            return NONE;
        }
        return counsel.standing;
    }

    public int frostAt(int m, int o) {
        if (!law.hasMan(m) || !law.hasMan(o) || m == o || !counsel.freezeOut(m, o)) {
            return NONE;
        }
        return counsel.givenInAt;
    }

    public int word(int n) {
        return isDays(n) ? counsel.daysRuledOtherwise(n) : NONE;
    }

    public int bare() {
        return counsel.firstDayRuledBy(NONE);
    }

    public int rules(int m) {
        return law.hasMan(m) ? counsel.firstDayRuledBy(m) : NONE;
    }

    public int harm(int m, int n) {
        return law.hasMan(m) && isDays(n) ? counsel.harmToCome(m, n) : NONE;
    }

    public int hooks() {
        int ways = counsel.waysToHaveLain(tape);
        tape.size = 0;
        return ways;
    }

    public int surely() {
        return counsel.latestSurely;
    }

    public int never() {
        return counsel.latestNever;
    }

    public int rounds() {
        return counsel.roundsTillRest();
    }

    public int price() {
        return counsel.latestPrice;
    }

    public int drawn(int n, int seed) {
        if (!isDays(n) || law.coats == 0) {
            return NONE;
        }
        past.mark(state);
        return undoableIfAny(counsel.drawDays(n, seed));
    }

    public int odds(int m, int n, int seed) {
        if (!law.hasMan(m) || n < 1 || n > 30 || law.coats == 0) {
            return NONE;
        }
        return counsel.seedsRuledBy(m, n, seed);
    }

    public int book(int lives) {
        if (lives != 0 && lives != 1) {
            return -1000;
        }
        boolean good = script.readText(tape, law.names);
        closeTape();
        if (!good) {
            return -2 - tape.faultPlace;
        }
        if (lives == 0) {
            return script.judge(counsel.trialOfNow());
        }
        past.mark(state);
        past.hold();
        return script.judge(state);
    }

    public int told(int what) {
        return what >= 0 && what < script.verdict.length ? script.verdict[what] : NONE;
    }

    public int sentence() {
        sentenceReader.open(law.names);
        boolean good = sentenceReader.readCond(1) && sentenceReader.isOver();
        closeTape();
        if (!good) {
            return -1 - tape.faultPlace;
        }
        sentence.copyFrom(sentenceReader.draft);
        return sentence.ones;
    }

    public int said(int k) {
        if (sentence.ones == 0) {
            return NONE;
        }
        int seats = sentence.seatsIn(state);
        return k == NONE ? Integer.bitCount(seats) : bitNumbered(seats, k);
    }

    public boolean image(int k) {
        if (k < 0 || k >= IMAGES) {
            return false;
        }
        images[k].take(law, state, sentence);
        return true;
    }

    public boolean restore(int k) {
        if (k < 0 || k >= IMAGES || !images[k].taken) {
            return false;
        }
        images[k].giveBack(law, state, sentence);
        past.clear();
        return true;
    }

    public int count(int what) {
        switch (what) {
            case 0:
                return law.seats;
            case 1:
                return law.men;
            case 2:
                return law.coats;
            case 3:
                return law.summer;
            case 4:
                return law.holds;
            case 5:
                return law.moths;
            case 6:
                return law.limit;
            case 7:
                return tape.size;
            default:
                return NONE;
        }
    }

    private void closeTape() {
        tape.size = 0;
        latestFault = tape.faultKind;
    }

    private int undoableIfDone(int why) {
        if (why == 0) {
            past.hold();
        }
        return why;
    }

    private int undoableIfAny(int wentBy) {
        if (wentBy > 0) {
            past.hold();
        }
        return wentBy;
    }

    private static boolean isDays(int n) {
        return n >= 1 && n <= DAYS_A_CALL;
    }

    private static int bitNumbered(int bits, int k) {
        int seen = 0;
        for (int s = 0; s < SEATS_MOST; s++) {
            if ((bits >> s & 1) != 0) {
                if (seen == k) {
                    return s;
                }
                seen++;
            }
        }
        return NONE;
    }

    private static int squareOfChill(int chill) {
        return chill > 0 ? chill * chill : 0;
    }

    /** The tape, and the TOKENS of the text that it is, with the first FAULT. */
    private static final class Tape {
        static final int AT_END = 0;
        static final int NO_TOKEN = 1;
        static final int A_WORD = 2;
        static final int A_NAME = 3;
        static final int A_NUMBER = 4;
        static final int A_SIGN = 5;
        /** Seven letters of five bits each fit a long, so that WORDS are compared as numbers. */
        static final int LETTER_ROOM = 32;
        static final int BEFORE_A = 'a' - 1;

        final int[] bytes = new int[TAPE_BYTES];
        final long[] words = new long[WORDS_IN_ALL];
        int size;
        int most;
        int place;
        int behind;
        int kind;
        int value;
        long spelled;
        int faultKind;
        int faultPlace;

        Tape() {
            int w = 0;
            long letters = 0;
            for (int k = 0; k < WORDS.length() && w < WORDS_IN_ALL; k++) {
                if (WORDS.charAt(k) == ' ') {
                    words[w] = letters;
                    letters = 0;
                    w++;
                } else {
                    letters = letters * LETTER_ROOM + (WORDS.charAt(k) - BEFORE_A);
                }
            }
        }

        void addNumber(int number) {
            for (int shift = 24; shift >= 0; shift -= 8) {
                if (size < TAPE_BYTES) {
                    bytes[size] = number >>> shift & 255;
                    size++;
                }
            }
        }

        void open(int bytesMost) {
            most = bytesMost;
            behind = 0;
            faultKind = 0;
            faultPlace = 0;
            advance();
        }

        void advance() {
            place = firstUnblank(behind);
            if (place >= size || place >= most) {
                stopAtEnd();
                return;
            }
            readRun();
            if (behind == place) {
                readSign(bytes[place]);
            } else if (kind == A_WORD) {
                tellNameFromWord();
            }
        }

        private int firstUnblank(int from) {
            for (int at = from; at < size; at++) {
                if (bytes[at] != ' ' && bytes[at] != '\n') {
                    return at;
                }
            }
            return size;
        }

        /** Bytes beyond the most are a FAULT even where the text could end: no TOKEN, not the end. */
        private void stopAtEnd() {
            kind = size > most ? NO_TOKEN : AT_END;
            place = size > most ? most : size;
            behind = place;
        }

        /** Letters and digits, if any; those of runs too long wrap, but as no TOKEN they are never looked at. */
        private void readRun() {
            int letters = 0;
            int digits = 0;
            value = 0;
            spelled = 0;
            behind = size;
            for (int at = place; at < size; at++) {
                int b = bytes[at];
                if (b >= 'a' && b <= 'z') {
                    letters++;
                    spelled = spelled * LETTER_ROOM + (b - BEFORE_A);
                } else if (b >= '0' && b <= '9') {
                    digits++;
                    value = value * 10 + (b - '0');
                } else {
                    behind = at;
                    break;
                }
            }
            kind = NO_TOKEN;
            if (digits == 0 && letters <= 7) {
                kind = A_WORD;
            } else if (letters == 0 && digits <= 3) {
                kind = A_NUMBER;
            }
        }

        private void tellNameFromWord() {
            kind = A_NAME;
            for (int w = 0; w < WORDS_IN_ALL; w++) {
                if (words[w] == spelled) {
                    kind = A_WORD;
                    value = w;
                }
            }
        }

        private void readSign(int sign) {
            boolean known = sign == ';' || sign == '<' || sign == '=' || sign == '>' || sign == '(' || sign == ')';
            kind = known ? A_SIGN : NO_TOKEN;
            value = sign;
            behind = place + 1;
        }

        boolean refuse(int fault) {
            faultKind = fault;
            faultPlace = place;
            return false;
        }

        boolean isOver() {
            return kind == AT_END || refuse(FAULT_TOKEN);
        }

        boolean isWord(int w) {
            return kind == A_WORD && value == w;
        }

        boolean isSign(int sign) {
            return kind == A_SIGN && value == sign;
        }

        boolean takeSign(int sign) {
            if (!isSign(sign)) {
                return refuse(FAULT_TOKEN);
            }
            advance();
            return true;
        }

        /** The NUMBER, or NONE with the FAULT told. */
        int takeNumber(int least, int greatest) {
            if (kind != A_NUMBER) {
                refuse(FAULT_TOKEN);
                return NONE;
            }
            if (value < least || value > greatest) {
                refuse(FAULT_NUMBER);
                return NONE;
            }
            int number = value;
            advance();
            return number;
        }

        /** The number of a NAME of that sort, or NONE with the FAULT told. */
        int takeName(Names names, int sort) {
            if (kind != A_NAME) {
                refuse(FAULT_TOKEN);
                return NONE;
            }
            int number = names.numberOf(spelled, sort);
            if (number == NONE) {
                refuse(FAULT_NAME);
                return NONE;
            }
            advance();
            return number;
        }

        boolean takeNewName(Names names, int sort, int number) {
            if (kind != A_NAME) {
                return refuse(FAULT_TOKEN);
            }
            if (!names.addNew(spelled, sort, number)) {
                return refuse(FAULT_NAME);
            }
            advance();
            return true;
        }
    }

    /** What each NAME of a CAPITAL names; a sort is the WORD that tells it: SEAT, MAN, COAT. */
    private static final class Names {
        final long[] spelled = new long[NAMES_MOST];
        final int[] sort = new int[NAMES_MOST];
        final int[] number = new int[NAMES_MOST];
        int size;

        void clear() {
            size = 0;
        }

        void copyFrom(Names other) {
            System.arraycopy(other.spelled, 0, spelled, 0, NAMES_MOST);
            System.arraycopy(other.sort, 0, sort, 0, NAMES_MOST);
            System.arraycopy(other.number, 0, number, 0, NAMES_MOST);
            size = other.size;
        }

        int numberOf(long name, int ofSort) {
            for (int k = 0; k < size; k++) {
                if (spelled[k] == name && sort[k] == ofSort) {
                    return number[k];
                }
            }
            return NONE;
        }

        boolean addNew(long name, int ofSort, int itsNumber) {
            for (int k = 0; k < size; k++) {
                if (spelled[k] == name) {
                    return false;
                }
            }
            if (size >= NAMES_MOST) {
                return false;
            }
            spelled[size] = name;
            sort[size] = ofSort;
            number[size] = itsNumber;
            size++;
            return true;
        }
    }

    /** What a CAPITAL's text tells, and no day changes. */
    private static final class Law {
        int seats;
        int men;
        int coats;
        int colds;
        int summer;
        int holds;
        int moths;
        int limit;
        final int[] worth = new int[SEATS_MOST];
        final int[] hardy = new int[MEN_MOST];
        final int[] owner = new int[COATS_MOST];
        final int[] warmth = new int[COATS_MOST];
        final int[] newCloth = new int[COATS_MOST];
        final int[] coldFrom = new int[COLDS_MOST];
        final int[] cold = new int[COLDS_MOST];
        final Names names = new Names();

        Law() {
            clear();
        }

        final void clear() {
            seats = 0;
            men = 0;
            coats = 0;
            colds = 0;
            summer = 0;
            holds = 9;
            moths = 1;
            limit = 200;
            names.clear();
        }

        void copyFrom(Law other) {
            seats = other.seats;
            men = other.men;
            coats = other.coats;
            colds = other.colds;
            summer = other.summer;
            holds = other.holds;
            moths = other.moths;
            limit = other.limit;
            System.arraycopy(other.worth, 0, worth, 0, SEATS_MOST);
            System.arraycopy(other.hardy, 0, hardy, 0, MEN_MOST);
            System.arraycopy(other.owner, 0, owner, 0, COATS_MOST);
            System.arraycopy(other.warmth, 0, warmth, 0, COATS_MOST);
            System.arraycopy(other.newCloth, 0, newCloth, 0, COATS_MOST);
            System.arraycopy(other.coldFrom, 0, coldFrom, 0, COLDS_MOST);
            System.arraycopy(other.cold, 0, cold, 0, COLDS_MOST);
            names.copyFrom(other.names);
        }

        boolean hasSeat(int s) {
            return s >= 0 && s < seats;
        }

        boolean hasMan(int m) {
            return m >= 0 && m < men;
        }

        boolean hasCoat(int c) {
            return c >= 0 && c < coats;
        }

        boolean hasColdFrom(int day) {
            for (int k = 0; k < colds; k++) {
                if (coldFrom[k] == day) {
                    return true;
                }
            }
            return false;
        }

        int coldOn(int day) {
            int latest = NONE;
            int there = 0;
            for (int k = 0; k < colds; k++) {
                if (coldFrom[k] <= day && coldFrom[k] > latest) {
                    latest = coldFrom[k];
                    there = cold[k];
                }
            }
            return there;
        }

        boolean isSummer(int day) {
            return coldOn(day) < summer;
        }
    }

    /** Reads a CAPITAL's text into a draft, so that a FAULT leaves the CAPITAL as it is. */
    private static final class LawReader {
        final Tape tape;
        final Law draft = new Law();
        int lines;
        int onceTold;

        LawReader(Tape tape) {
            this.tape = tape;
        }

        boolean readText() {
            draft.clear();
            lines = 0;
            onceTold = 0;
            tape.open(CAPITAL_BYTES);
            while (lines < CAPITAL_BYTES && tape.kind != Tape.AT_END) {
                if (!readLine() || !tape.takeSign(';')) {
                    return false;
                }
                lines++;
            }
            return tape.isOver();
        }

        private boolean readLine() {
            if (tape.kind != Tape.A_WORD) {
                return tape.refuse(FAULT_TOKEN);
            }
            switch (tape.value) {
                case SEAT:
                    return readSeat();
                case MAN:
                    return readMan();
                case COAT:
                    return readCoat();
                case COLD:
                    return readCold();
                case SUMMER:
                    draft.summer = readOnce(0, 40, draft.summer);
                    return tape.faultKind == 0;
                case HOLDS:
                    draft.holds = readOnce(1, 30, draft.holds);
                    return tape.faultKind == 0;
                case MOTHS:
                    draft.moths = readOnce(0, 9, draft.moths);
                    return tape.faultKind == 0;
                case LIMIT:
                    draft.limit = readOnce(1, 999, draft.limit);
                    return tape.faultKind == 0;
                default:
                    return tape.refuse(FAULT_TOKEN);
            }
        }

        private boolean readSeat() {
            if (draft.seats >= SEATS_MOST) {
                return tape.refuse(FAULT_MANY);
            }
            tape.advance();
            if (!tape.takeNewName(draft.names, SEAT, draft.seats)) {
                return false;
            }
            int worth = tape.takeNumber(1, 99);
            if (worth == NONE) {
                return false;
            }
            draft.worth[draft.seats] = worth;
            draft.seats++;
            return true;
        }

        private boolean readMan() {
            if (draft.men >= MEN_MOST) {
                return tape.refuse(FAULT_MANY);
            }
            tape.advance();
            if (!tape.takeNewName(draft.names, MAN, draft.men)) {
                return false;
            }
            int hardy = tape.takeNumber(0, 20);
            if (hardy == NONE) {
                return false;
            }
            draft.hardy[draft.men] = hardy;
            draft.men++;
            return true;
        }

        private boolean readCoat() {
            if (draft.coats >= COATS_MOST) {
                return tape.refuse(FAULT_MANY);
            }
            tape.advance();
            if (!tape.takeNewName(draft.names, COAT, draft.coats)) {
                return false;
            }
            int owner = tape.takeName(draft.names, MAN);
            if (owner == NONE) {
                return false;
            }
            int warmth = tape.takeNumber(0, 20);
            if (warmth == NONE) {
                return false;
            }
            int cloth = tape.takeNumber(1, 99);
            if (cloth == NONE) {
                return false;
            }
            draft.owner[draft.coats] = owner;
            draft.warmth[draft.coats] = warmth;
            draft.newCloth[draft.coats] = cloth;
            draft.coats++;
            return true;
        }

        private boolean readCold() {
            if (draft.colds >= COLDS_MOST) {
                return tape.refuse(FAULT_MANY);
            }
            tape.advance();
            if (tape.kind == Tape.A_NUMBER && draft.hasColdFrom(tape.value)) {
                return tape.refuse(FAULT_NAME);
            }
            int from = tape.takeNumber(0, DAYS_IN_ALL - 1);
            if (from == NONE) {
                return false;
            }
            int cold = tape.takeNumber(0, 40);
            if (cold == NONE) {
                return false;
            }
            draft.coldFrom[draft.colds] = from;
            draft.cold[draft.colds] = cold;
            draft.colds++;
            return true;
        }

        /** The NUMBER behind a WORD that is told once; what was so before, if there is a FAULT. */
        private int readOnce(int least, int greatest, int before) {
            int bit = 1 << tape.value;
            if ((onceTold & bit) != 0) {
                tape.refuse(FAULT_NAME);
                return before;
            }
            onceTold |= bit;
            tape.advance();
            int number = tape.takeNumber(least, greatest);
            return number == NONE ? before : number;
        }
    }

    /** All that is so on a DAY, and what is done to it. */
    private static final class State {
        final Law law;
        int day;
        int bareDays;
        int firstBare;
        int queued;
        final int[] where = new int[COATS_MOST];
        final int[] cloth = new int[COATS_MOST];
        final int[] user = new int[COATS_MOST];
        final int[] lain = new int[COATS_MOST];
        final int[] line = new int[COATS_MOST];
        final int[] harm = new int[MEN_MOST];
        final int[] ruled = new int[MEN_MOST];
        private final int[] tally = new int[MEN_MOST];

        State(Law law) {
            this.law = law;
            firstBare = NONE;
        }

        void begin() {
            day = 0;
            bareDays = 0;
            firstBare = NONE;
            queued = 0;
            for (int c = 0; c < law.coats; c++) {
                where[c] = law.owner[c];
                user[c] = law.owner[c];
                cloth[c] = law.newCloth[c];
                lain[c] = 0;
            }
            Arrays.fill(harm, 0);
            Arrays.fill(ruled, 0);
        }

        void copyFrom(State other) {
            day = other.day;
            bareDays = other.bareDays;
            firstBare = other.firstBare;
            queued = other.queued;
            System.arraycopy(other.where, 0, where, 0, COATS_MOST);
            System.arraycopy(other.cloth, 0, cloth, 0, COATS_MOST);
            System.arraycopy(other.user, 0, user, 0, COATS_MOST);
            System.arraycopy(other.lain, 0, lain, 0, COATS_MOST);
            System.arraycopy(other.line, 0, line, 0, COATS_MOST);
            System.arraycopy(other.harm, 0, harm, 0, MEN_MOST);
            System.arraycopy(other.ruled, 0, ruled, 0, MEN_MOST);
        }

        boolean isWorn(int c) {
            return where[c] >= 0 && where[c] < law.men;
        }

        boolean isLaid(int c) {
            return where[c] >= ON_SEAT && where[c] < ON_SEAT + law.seats;
        }

        int coatOn(int s) {
            for (int c = 0; c < law.coats; c++) {
                if (where[c] == ON_SEAT + s) {
                    return c;
                }
            }
            return NONE;
        }

        int holderOf(int s) {
            int c = coatOn(s);
            return c == NONE || law.isSummer(day) ? NONE : law.owner[c];
        }

        int daysLainOn(int s) {
            int c = coatOn(s);
            return c == NONE ? 0 : lain[c];
        }

        int clothOn(int s) {
            int c = coatOn(s);
            return c == NONE ? 0 : cloth[c];
        }

        int coatsAt(int place) {
            int bits = 0;
            for (int c = 0; c < law.coats; c++) {
                if (where[c] == place) {
                    bits |= 1 << c;
                }
            }
            return bits;
        }

        int wornBy(int m) {
            return coatsAt(m);
        }

        int eaten() {
            return coatsAt(EATEN);
        }

        int inCloakroom() {
            return coatsAt(CLOAKROOM);
        }

        int uneatenOf(int m) {
            int bits = 0;
            for (int c = 0; c < law.coats; c++) {
                if (law.owner[c] == m && where[c] != EATEN) {
                    bits |= 1 << c;
                }
            }
            return bits;
        }

        int seatsHeldBy(int m) {
            int bits = 0;
            for (int s = 0; s < law.seats; s++) {
                if (holderOf(s) == m) {
                    bits |= 1 << s;
                }
            }
            return bits;
        }

        int worthHeldBy(int m) {
            int sum = 0;
            for (int s = 0; s < law.seats; s++) {
                if (holderOf(s) == m) {
                    sum += law.worth[s];
                }
            }
            return sum;
        }

        /** The WARMTH that a MAN wears, but for some COATS. */
        int warmthOf(int m, int without) {
            int sum = 0;
            for (int c = 0; c < law.coats; c++) {
                if (where[c] == m && (without >> c & 1) == 0) {
                    sum += law.warmth[c];
                }
            }
            return sum;
        }

        int chillOf(int m) {
            return Math.max(0, law.coldOn(day) - law.hardy[m] - warmthOf(m, 0));
        }

        /** Who would RULE by the COATS that lie, were it not SUMMER. */
        int rulerWithoutSummer() {
            Arrays.fill(tally, 0);
            for (int c = 0; c < law.coats; c++) {
                if (isLaid(c)) {
                    tally[law.owner[c]] += law.worth[where[c] - ON_SEAT];
                }
            }
            int first = NONE;
            int most = 0;
            for (int m = 0; m < law.men; m++) {
                if (tally[m] > most) {
                    most = tally[m];
                    first = m;
                }
            }
            return first;
        }

        int ruler() {
            return law.isSummer(day) ? NONE : rulerWithoutSummer();
        }

        int tryLay(int c, int s) {
            if (!isWorn(c)) {
                return 1;
            }
            if (coatOn(s) != NONE) {
                return 2;
            }
            where[c] = ON_SEAT + s;
            lain[c] = 0;
            return 0;
        }

        int tryWear(int m, int c) {
            if (isWorn(c) || where[c] == EATEN) {
                return 1;
            }
            if (user[c] != m && law.owner[c] != m) {
                return 2;
            }
            leaveQueue(c);
            where[c] = m;
            return 0;
        }

        int tryLend(int c, int m) {
            if (where[c] == EATEN) {
                return 1;
            }
            if (user[c] == m) {
                return 2;
            }
            user[c] = m;
            return 0;
        }

        int tryKeep(int c) {
            if (!isWorn(c)) {
                return 1;
            }
            joinQueue(c);
            return 0;
        }

        int queuePlaceOf(int c) {
            for (int k = 0; k < queued; k++) {
                if (line[k] == c) {
                    return k;
                }
            }
            return NONE;
        }

        private void joinQueue(int c) {
            where[c] = CLOAKROOM;
            if (queued < COATS_MOST) {
                line[queued] = c;
                queued++;
            }
        }

        private void leaveQueue(int c) {
            int place = queuePlaceOf(c);
            if (place == NONE) {
                return;
            }
            for (int k = place; k + 1 < queued; k++) {
                line[k] = line[k + 1];
            }
            queued--;
        }

        int daysLeftOf(int n) {
            return Math.min(n, DAYS_IN_ALL - day);
        }

        int passDays(int n) {
            int going = daysLeftOf(n);
            for (int k = 0; k < going; k++) {
                passDay();
            }
            return going;
        }

        /** A DAY goes by; answers who RULED on it. */
        int passDay() {
            int ruler = ruler();
            if (ruler == NONE) {
                bareDays++;
                firstBare = firstBare == NONE ? day : firstBare;
            } else {
                ruled[ruler]++;
            }
            freeze();
            for (int c = 0; c < law.coats; c++) {
                if (isLaid(c)) {
                    lieForDay(c);
                }
            }
            day++;
            return ruler;
        }

        /** All MEN at once: days are tried out by the hundred, and one way along the COATS will do. */
        private void freeze() {
            Arrays.fill(tally, 0);
            for (int c = 0; c < law.coats; c++) {
                if (isWorn(c)) {
                    tally[where[c]] += law.warmth[c];
                }
            }
            int cold = law.coldOn(day);
            for (int m = 0; m < law.men; m++) {
                harm[m] += squareOfChill(cold - law.hardy[m] - tally[m]);
            }
        }

        private void lieForDay(int c) {
            cloth[c] -= law.moths;
            lain[c]++;
            if (cloth[c] <= 0) {
                cloth[c] = 0;
                where[c] = EATEN;
            } else if (lain[c] >= law.holds) {
                joinQueue(c);
            }
        }
    }

    /** What was so ahead of the latest acts; one row more than can be undone takes the act that goes on. */
    private static final class Past {
        final State[] rows = new State[UNDO_MOST + 1];
        int next;
        int size;

        Past(Law law) {
            for (int k = 0; k <= UNDO_MOST; k++) {
                rows[k] = new State(law);
            }
        }

        void clear() {
            size = 0;
        }

        void mark(State state) {
            rows[next].copyFrom(state);
        }

        void hold() {
            next = next == UNDO_MOST ? 0 : next + 1;
            size = Math.min(size + 1, UNDO_MOST);
        }

        boolean takeBack(State state) {
            if (size == 0) {
                return false;
            }
            next = next == 0 ? UNDO_MOST : next - 1;
            size--;
            state.copyFrom(rows[next]);
            return true;
        }
    }

    /** A SENTENCE, each ONE behind what it is about, so that it is said without recursion. */
    private static final class Sentence {
        static final int STEPS_MOST = 2 * ONES_MOST;

        final int[] step = new int[STEPS_MOST];
        final int[] sign = new int[STEPS_MOST];
        final int[] number = new int[STEPS_MOST];
        final int[] heap = new int[STEPS_MOST];
        int steps;
        int ones;

        void clear() {
            steps = 0;
            ones = 0;
        }

        void copyFrom(Sentence other) {
            System.arraycopy(other.step, 0, step, 0, STEPS_MOST);
            System.arraycopy(other.sign, 0, sign, 0, STEPS_MOST);
            System.arraycopy(other.number, 0, number, 0, STEPS_MOST);
            steps = other.steps;
            ones = other.ones;
        }

        void addStep(int word, int itsSign, int itsNumber) {
            if (steps < STEPS_MOST) {
                step[steps] = word;
                sign[steps] = itsSign;
                number[steps] = itsNumber;
                steps++;
            }
        }

        /** The SEATS of which it may be said, as bits: each step works on all SEATS at once. */
        int seatsIn(State state) {
            int all = (1 << state.law.seats) - 1;
            int top = 0;
            for (int k = 0; k < steps; k++) {
                if (step[k] == NOT && top >= 1) {
                    heap[top - 1] = all & ~heap[top - 1];
                } else if (step[k] == AND && top >= 2) {
                    top--;
                    heap[top - 1] &= heap[top];
                } else if (step[k] == OR && top >= 2) {
                    top--;
                    heap[top - 1] |= heap[top];
                } else if (top < STEPS_MOST) {
                    heap[top] = seatsOfStep(k, state);
                    top++;
                }
            }
            return top == 0 ? 0 : heap[top - 1];
        }

        private int seatsOfStep(int k, State state) {
            int bits = 0;
            for (int s = 0; s < state.law.seats; s++) {
                if (isSaidOf(s, k, state)) {
                    bits |= 1 << s;
                }
            }
            return bits;
        }

        private boolean isSaidOf(int s, int k, State state) {
            switch (step[k]) {
                case BARE:
                    return state.coatOn(s) == NONE;
                case HELD:
                    return state.holderOf(s) != NONE;
                case OF:
                    return state.holderOf(s) == number[k];
                case UNDER:
                    return state.coatOn(s) == number[k];
                case WORTH:
                    return compares(state.law.worth[s], k);
                case LAIN:
                    return compares(state.daysLainOn(s), k);
                case CLOTH:
                    return compares(state.clothOn(s), k);
                case NUMBER:
                    return compares(s, k);
                default:
                    return false;
            }
        }

        private boolean compares(int measured, int k) {
            if (sign[k] == '<') {
                return measured < number[k];
            }
            return sign[k] == '=' ? measured == number[k] : measured > number[k];
        }
    }

    /** Reads a SENTENCE's text into a draft, so that a FAULT leaves the SENTENCE as it is. */
    private static final class SentenceReader {
        final Tape tape;
        final Sentence draft = new Sentence();
        Names names;

        SentenceReader(Tape tape) {
            this.tape = tape;
            names = new Names();
        }

        void open(Names told) {
            names = told;
            draft.clear();
            tape.open(SENTENCE_BYTES);
        }

        boolean isOver() {
            return tape.isOver();
        }

        private boolean readCond(int depth) {
            if (!readAll(depth)) {
                return false;
            }
            for (int k = 0; k < ONES_MOST && tape.isWord(OR); k++) {
                tape.advance();
                if (!readAll(depth)) {
                    return false;
                }
                draft.addStep(OR, 0, 0);
            }
            return true;
        }

        private boolean readAll(int depth) {
            if (!readOne(depth)) {
                return false;
            }
            for (int k = 0; k < ONES_MOST && tape.isWord(AND); k++) {
                tape.advance();
                if (!readOne(depth)) {
                    return false;
                }
                draft.addStep(AND, 0, 0);
            }
            return true;
        }

        private boolean readOne(int depth) {
            boolean bracket = tape.isSign('(');
            if (!bracket && (tape.kind != Tape.A_WORD || tape.value < NOT)) {
                return tape.refuse(FAULT_TOKEN);
            }
            if (draft.ones >= ONES_MOST || depth > WITHIN_MOST) {
                return tape.refuse(FAULT_MANY);
            }
            draft.ones++;
            int word = tape.value;
            tape.advance();
            if (bracket) {
                return readCond(depth + 1) && tape.takeSign(')');
            }
            if (word == NOT) {
                if (!readOne(depth + 1)) {
                    return false;
                }
                draft.addStep(NOT, 0, 0);
                return true;
            }
            return readSaying(word);
        }

        private boolean readSaying(int word) {
            if (word == BARE || word == HELD) {
                draft.addStep(word, 0, 0);
                return true;
            }
            int sign = 0;
            int number;
            if (word == OF) {
                number = tape.takeName(names, MAN);
            } else if (word == UNDER) {
                number = tape.takeName(names, COAT);
            } else {
                sign = tape.value;
                if (!tape.isSign('<') && !tape.isSign('=') && !tape.isSign('>')) {
                    return tape.refuse(FAULT_TOKEN);
                }
                tape.advance();
                number = tape.takeNumber(0, 999);
            }
            draft.addStep(word, sign, number);
            return number != NONE;
        }
    }

    /** A BOOK's LINES, and what the latest judging told of them. */
    private static final class Book {
        final int[] act = new int[BOOK_LINES];
        final int[] first = new int[BOOK_LINES];
        final int[] second = new int[BOOK_LINES];
        final int[] verdict = {NONE, NONE, NONE, NONE};
        int lines;

        boolean readText(Tape tape, Names names) {
            lines = 0;
            tape.open(BOOK_BYTES);
            for (int k = 0; k < BOOK_BYTES && tape.kind != Tape.AT_END; k++) {
                if (!readLine(tape, names) || !tape.takeSign(';')) {
                    return false;
                }
                lines++;
            }
            return tape.isOver();
        }

        private boolean readLine(Tape tape, Names names) {
            boolean day = tape.isWord(DAY);
            if (!day && tape.kind != Tape.A_NAME) {
                return tape.refuse(FAULT_TOKEN);
            }
            int c = day ? NONE : names.numberOf(tape.spelled, COAT);
            int m = day ? NONE : names.numberOf(tape.spelled, MAN);
            if (!day && c == NONE && m == NONE) {
                return tape.refuse(FAULT_NAME);
            }
            if (lines >= BOOK_LINES) {
                return tape.refuse(FAULT_MANY);
            }
            tape.advance();
            if (day) {
                return setLine(DAY, tape.takeNumber(1, DAYS_A_CALL), 0);
            }
            return c == NONE ? readWears(m, tape, names) : readOfCoat(c, tape, names);
        }

        private boolean readWears(int m, Tape tape, Names names) {
            if (!tape.isWord(WEARS)) {
                return tape.refuse(FAULT_TOKEN);
            }
            tape.advance();
            return setLine(WEARS, m, tape.takeName(names, COAT));
        }

        private boolean readOfCoat(int c, Tape tape, Names names) {
            int word = tape.value;
            if (!tape.isWord(LIES) && !tape.isWord(LENT) && !tape.isWord(KEPT)) {
                return tape.refuse(FAULT_TOKEN);
            }
            tape.advance();
            if (word == KEPT) {
                return setLine(KEPT, c, 0);
            }
            return setLine(word, c, tape.takeName(names, word == LIES ? SEAT : MAN));
        }

        /** A LINE whose NAME or NUMBER was refused is none. */
        private boolean setLine(int word, int one, int other) {
            if (one == NONE || other == NONE || lines >= BOOK_LINES) {
                return false;
            }
            act[lines] = word;
            first[lines] = one;
            second[lines] = other;
            return true;
        }

        /** Lives the LINES up to the first that is WRONG: which one that is. */
        int judge(State state) {
            int bareBefore = state.bareDays;
            int why = 0;
            int good = 0;
            while (good < lines && why == 0) {
                why = liveLine(good, state);
                if (why == 0) {
                    good++;
                }
            }
            verdict[0] = why;
            verdict[1] = good;
            verdict[2] = state.day;
            verdict[3] = state.bareDays - bareBefore;
            return why == 0 ? NONE : good;
        }

        private int liveLine(int k, State state) {
            switch (act[k]) {
                case LIES:
                    return state.tryLay(first[k], second[k]);
                case WEARS:
                    return wrongBy(10, state.tryWear(first[k], second[k]));
                case LENT:
                    return wrongBy(20, state.tryLend(first[k], second[k]));
                case KEPT:
                    return wrongBy(30, state.tryKeep(first[k]));
                default:
                    if (state.daysLeftOf(first[k]) < first[k]) {
                        return 41;
                    }
                    state.passDays(first[k]);
                    return 0;
            }
        }

        private static int wrongBy(int more, int why) {
            return why == 0 ? 0 : more + why;
        }
    }

    /** CAPITAL, all that is so and the SENTENCE, as they were. */
    private static final class Image {
        final Law law = new Law();
        final State state = new State(law);
        final Sentence sentence = new Sentence();
        boolean taken;

        void take(Law nowLaw, State nowState, Sentence nowSentence) {
            law.copyFrom(nowLaw);
            state.copyFrom(nowState);
            sentence.copyFrom(nowSentence);
            taken = true;
        }

        void giveBack(Law nowLaw, State nowState, Sentence nowSentence) {
            nowLaw.copyFrom(law);
            nowState.copyFrom(state);
            nowSentence.copyFrom(sentence);
        }
    }

    /** What can be asked of a State, tried out on another one, and what the latest answers rest on. */
    private static final class Counsel {
        static final int ROUNDS_MOST = 60;
        static final int FIRST_PRICE = 5;
        static final int DAYS_OF_ODDS = 20;
        static final int NO_MAN = 9;

        final Law law;
        final State state;
        final State trial;
        final int[] worthOfBest = new int[SEATS_MOST + 1];
        final int[] hung = new int[MEN_MOST];
        final int[] owned = new int[MEN_MOST];
        int latestLaid = NONE;
        int latestTurns = NONE;
        int latestSurely = NONE;
        int latestNever = NONE;
        int latestPrice = NONE;
        int standing;
        int givenInAt;
        int seedNow;

        Counsel(Law law, State state) {
            this.law = law;
            this.state = state;
            trial = new State(law);
        }

        State trialOfNow() {
            trial.copyFrom(state);
            return trial;
        }

        int mostWorth(int m, int h) {
            int bareSeats = rankBareSeats();
            int own = state.wornBy(m) & state.uneatenOf(m);
            int bare = law.coldOn(state.day) - law.hardy[m];
            int most = NONE;
            for (int set = 0; set < 1 << COATS_MOST; set++) {
                int size = Integer.bitCount(set);
                if ((set & ~own) != 0 || size > bareSeats || worthOfBest[size] <= most) {
                    continue;
                }
                if (squareOfChill(bare - state.warmthOf(m, set)) <= h) {
                    most = worthOfBest[size];
                    latestLaid = set;
                }
            }
            return most;
        }

        /** Fills in what the 0, 1, .. worthiest bare SEATS are worth together: how many are bare. */
        private int rankBareSeats() {
            int used = 0;
            int ranked = 0;
            worthOfBest[0] = 0;
            for (int k = 0; k < law.seats; k++) {
                int s = worthiestBareSeat(used);
                if (s != NONE) {
                    used |= 1 << s;
                    worthOfBest[ranked + 1] = worthOfBest[ranked] + law.worth[s];
                    ranked++;
                }
            }
            return ranked;
        }

        private int worthiestBareSeat(int used) {
            int first = NONE;
            int most = 0;
            for (int s = 0; s < law.seats; s++) {
                if ((used >> s & 1) == 0 && law.worth[s] > most && state.coatOn(s) == NONE) {
                    most = law.worth[s];
                    first = s;
                }
            }
            return first;
        }

        /** DAYS do not touch one another here, so each one's better turn is the best in all. */
        int leastSharedHarm(int m, int o, int c, int n) {
            int needM = law.hardy[m] + state.warmthOf(m, 1 << c);
            int needO = law.hardy[o] + state.warmthOf(o, 1 << c);
            int warmth = law.warmth[c];
            int sum = 0;
            latestTurns = 0;
            for (int k = 0; k < n; k++) {
                int cold = law.coldOn(state.day + k);
                int byFirst = squareOfChill(cold - needM - warmth) + squareOfChill(cold - needO);
                int bySecond = squareOfChill(cold - needM) + squareOfChill(cold - needO - warmth);
                if (bySecond < byFirst) {
                    latestTurns |= 1 << k;
                }
                sum += Math.min(byFirst, bySecond);
            }
            return sum;
        }

        /** Who is behind another sort of COAT has to be moved himself: nobody else's bribe helps him. */
        int fewestBribes(int set) {
            boolean otherAhead = false;
            int bribed = 0;
            for (int k = 0; k < state.queued; k++) {
                if ((set >> state.line[k] & 1) == 0) {
                    otherAhead = true;
                } else if (otherAhead) {
                    bribed++;
                }
            }
            return bribed;
        }

        /** Whether one of both gives in; standing and givenInAt tell the rest. */
        boolean freezeOut(int m, int o) {
            int harmM = 0;
            int harmO = 0;
            for (int day = state.day; day < DAYS_IN_ALL; day++) {
                int cold = law.coldOn(day);
                harmM += squareOfChill(cold - law.hardy[m]);
                harmO += squareOfChill(cold - law.hardy[o]);
                if (harmM > law.limit || harmO > law.limit) {
                    standing = harmM > harmO ? o : m;
                    givenInAt = day;
                    return harmM != harmO;
                }
            }
            return false;
        }

        int daysRuledOtherwise(int n) {
            State there = trialOfNow();
            int going = there.daysLeftOf(n);
            int otherwise = 0;
            for (int k = 0; k < going; k++) {
                int without = there.rulerWithoutSummer();
                if (there.passDay() != without) {
                    otherwise++;
                }
            }
            return otherwise;
        }

        /** The first DAY that ends so, if nothing is done (NONE for m: BARE). */
        int firstDayRuledBy(int m) {
            State there = trialOfNow();
            for (int day = state.day; day < DAYS_IN_ALL; day++) {
                if (m != NONE && there.rulerWithoutSummer() == NONE) {
                    return NONE; // where nothing lies any more, nothing will
                }
                if (there.passDay() == m) {
                    return day;
                }
            }
            return NONE;
        }

        int harmToCome(int m, int n) {
            int going = state.daysLeftOf(n);
            int need = law.hardy[m] + state.warmthOf(m, 0);
            int sum = 0;
            for (int k = 0; k < going; k++) {
                sum += squareOfChill(law.coldOn(state.day + k) - need);
            }
            return sum;
        }

        int waysToHaveLain(Tape tape) {
            if (law.seats == 0 || tape.size != law.seats || !countHung(tape)) {
                return NONE;
            }
            int ways = 1;
            for (int m = 0; m < law.men; m++) {
                for (int k = 0; k < hung[m]; k++) {
                    ways *= Math.max(0, owned[m] - k);
                }
            }
            if (ways > 0) {
                tellOfWays();
            }
            return ways;
        }

        private boolean countHung(Tape tape) {
            Arrays.fill(hung, 0);
            Arrays.fill(owned, 0);
            for (int c = 0; c < law.coats; c++) {
                owned[law.owner[c]]++;
            }
            for (int s = 0; s < tape.size; s++) {
                int m = tape.bytes[s];
                if (law.hasMan(m)) {
                    hung[m]++;
                } else if (m != NO_MAN) {
                    return false;
                }
            }
            return true;
        }

        /** A MAN's COATS are alike here: all of them lay surely, all never, or any may have. */
        private void tellOfWays() {
            latestSurely = 0;
            latestNever = 0;
            for (int c = 0; c < law.coats; c++) {
                int m = law.owner[c];
                if (hung[m] == owned[m]) {
                    latestSurely |= 1 << c;
                } else if (hung[m] == 0) {
                    latestNever |= 1 << c;
                }
            }
        }

        int roundsTillRest() {
            int price = FIRST_PRICE;
            int round = 0;
            boolean rest = false;
            while (round < ROUNDS_MOST && !rest) {
                int before = price;
                int wanting = menWanting(price);
                if (wanting > state.queued) {
                    price++;
                } else if (wanting < state.queued && price > 0) {
                    price--;
                }
                rest = price == before;
                round++;
            }
            latestPrice = price;
            return round;
        }

        private int menWanting(int price) {
            int wanting = 0;
            for (int m = 0; m < law.men; m++) {
                if (squareOfChill(state.chillOf(m)) > price) {
                    wanting++;
                }
            }
            return wanting;
        }

        int drawDays(int n, int seed) {
            seedNow = seed;
            int going = state.daysLeftOf(n);
            for (int k = 0; k < going; k++) {
                drawDay(state);
            }
            return going;
        }

        int seedsRuledBy(int m, int n, int seed) {
            int by = 0;
            for (int k = 0; k < n; k++) {
                if (rulesByDraws(m, seed + k)) {
                    by++;
                }
            }
            return by;
        }

        private boolean rulesByDraws(int m, int seed) {
            State there = trialOfNow();
            seedNow = seed;
            int going = there.daysLeftOf(DAYS_OF_ODDS);
            for (int k = 0; k < going; k++) {
                if (drawDay(there) == m) {
                    return true;
                }
            }
            return false;
        }

        private int drawDay(State there) {
            for (int c = 0; c < law.coats; c++) {
                drawForCoat(c, there);
            }
            return there.passDay();
        }

        private void drawForCoat(int c, State there) {
            int drawn = nextDraw(6);
            if (drawn == 0 && law.seats > 0) {
                there.tryLay(c, nextDraw(law.seats));
            } else if (drawn == 1) {
                there.tryWear(law.owner[c], c);
            } else if (drawn == 2) {
                there.tryKeep(c);
            }
        }

        private int nextDraw(int n) {
            seedNow = seedNow * 1103515245 + 12345;
            return n > 0 ? (seedNow >>> 8) % n : 0;
        }
    }
}
