/**
 * Coopers keep it together while it's said: guests at a ring of seats, whose talk swells MINUTE by
 * MINUTE until it bursts over whoever sits beside. The words in capitals are those of the document.
 * Nothing is made behind the constructor: each call works in the rows that stand already.
 */
public final class TalkCoopers {

    public static final int NONE = -1;
    public static final long NOTHING = -1000000000000000L;

    private static final int MOST_BYTES = 1600;
    private static final int FEED_BYTES = 20;
    private static final int MOST_STATEMENTS = 60;
    private static final int LEAST_SEATS = 3;
    private static final int MOST_SEATS = 9;
    private static final int MOST_GUESTS = 7;
    private static final int MOST_LETTERS = 6;
    private static final int MOST_DIGITS = 4;
    private static final int MOST_TOAST = 100;
    private static final int MOST_OPEN = 6;
    private static final int MOST_WET = 9;
    private static final int MOST_HOT = 9;
    private static final int WETNESSES = MOST_WET + 1;
    private static final int MOST_SWELL = 99;
    private static final int LAST_MINUTE = 999;
    private static final int MOST_AHEAD = 60;
    private static final int MOST_HOLDING = 30;
    private static final int MOST_SEATING = 10;
    private static final int MOST_GOING = 100;
    private static final int MOST_HEARD = 16;
    private static final int HEARD_CELLS = 3;
    private static final int MOST_HEARD_AHEAD = 30;
    private static final int NOBODY = 255;
    private static final int MOST_KEPT = 40;
    private static final int KEPT_CELLS = 4;
    private static final int MOST_ACTS = 20;
    private static final int HELD = 1000000;
    private static final int TOAST_SWELL = 9;
    private static final int MOST_IMAGE = 3 + MOST_SEATS + 2 * MOST_GUESTS;
    /** Above every count of BURSTS that can be. */
    private static final int MANY = 1000000;
    /** A cell of Code from here on is a sign: a word's number or a symbol's byte; below, a number. */
    private static final int SIGNS = 10000;

    private final Tape tape = new Tape();
    private final Reader reader = new Reader(tape);
    private Table rules = new Table();
    private Table draft = new Table();
    private final Ring now = new Ring(rules);
    private final Ring trial = new Ring(rules);
    private final BurstLog log = new BurstLog();
    private final Acts acts = new Acts();
    private final Hums hums = new Hums(trial);
    private final Plans plans = new Plans(trial);
    private final int[] picture = new int[MOST_IMAGE];
    private int pictureLength = 0;
    private final int[] refusals = new int[6];
    private int lastFault = 0;
    private int lastPlace = NONE;
    private long drawn = 1;

    public TalkCoopers() {
    }

    public int feed(int a, int b, int c, int d, int e) {
        if (tape.length + FEED_BYTES > MOST_BYTES) {
            refuse(0);
            return NONE;
        }
        tape.add(a);
        tape.add(b);
        tape.add(c);
        tape.add(d);
        tape.add(e);
        return tape.length;
    }

    public boolean end(int n) {
        if (n < 0 || n > tape.length) {
            refuse(0);
            return false;
        }
        tape.length = n;
        return true;
    }

    public int table() {
        boolean isTable = reader.readTable(draft);
        noteFault();
        tape.length = 0;
        if (!isTable) {
            refuse(1);
            return NONE;
        }
        Table old = rules;
        rules = draft;
        draft = old;
        now.start(rules);
        hums.count = 0;
        forgetThePast();
        return rules.statements;
    }

    public int fault(int what) {
        return what == 0 ? lastFault : what == 1 ? lastPlace : NONE;
    }

    public int has(int what) {
        switch (what) {
            case 0: return rules.seats;
            case 1: return rules.guests;
            case 2: return Integer.bitCount(now.hoopBits);
            case 3: return now.minute;
            case 4: return now.swellsOf((1 << rules.guests) - 1);
            case 5: return log.count;
            case 6: return hums.count;
            case 7: return acts.count;
            default: return NONE;
        }
    }

    public int letter(int guest, int k) {
        if (!isGuest(guest) || k < 0 || k >= MOST_LETTERS) {
            return NONE;
        }
        return rules.letters[guest * MOST_LETTERS + k];
    }

    public int guest(int guest, int what) {
        if (!isGuest(guest)) {
            return NONE;
        }
        switch (what) {
            case 0: return now.seatOf[guest];
            case 1: return now.wet[guest];
            case 2: return rules.hot[guest];
            case 3: return now.swell[guest];
            default: return NONE;
        }
    }

    public int seat(int seat, int what) {
        if (!isSeat(seat)) {
            return NONE;
        }
        switch (what) {
            case 0: return now.guestIn[seat];
            case 1: return now.hoopBits >> seat & 1;
            case 2: return now.loadOf(seat);
            default: return NONE;
        }
    }

    public int kept(int k, int what) {
        if (k < 0 || k >= log.count || k >= MOST_KEPT || what < 0 || what >= KEPT_CELLS) {
            return NONE;
        }
        return log.cells[k * KEPT_CELLS + what];
    }

    // ---- ahead.

    public int later(int guest, int n) {
        if (!isGuest(guest) || !canCome(n, 0, MOST_AHEAD)) {
            return NONE;
        }
        trial.copy(now);
        trial.goOn(n, MANY, null);
        return trial.swell[guest];
    }

    public int bursts(int guest) {
        if (!isGuest(guest)) {
            return NONE;
        }
        trial.copy(now);
        for (int n = 0; n < MOST_AHEAD && trial.minute < LAST_MINUTE; n++) {
            trial.pass(null);
            if ((trial.burstBits >> guest & 1) == 1) {
                return n;
            }
        }
        return NONE;
    }

    public int burst(int n) {
        if (!canCome(n, 0, MOST_AHEAD)) {
            return NONE;
        }
        trial.copy(now);
        return trial.goOn(n, MANY, null);
    }

    // ---- hoops, seats, tuns.

    public int hoops(int n) {
        return canCome(n, 1, MOST_HOLDING) ? plans.seekHoops(now, n) : NONE;
    }

    public int change(int n, int what) {
        if (!canCome(n, 1, MOST_HOLDING) || what < 0 || what > 2) {
            return NONE;
        }
        plans.seekChange(now, n);
        return what == 0 ? plans.changeLess : what == 1 ? plans.changeOther : plans.changeBursts;
    }

    public int seating(int n, int guest) {
        if (!canCome(n, 1, MOST_SEATING) || guest != NONE && !isGuest(guest)) {
            return NONE;
        }
        plans.seekSeating(now, n);
        return guest == NONE ? plans.seatingBursts : plans.bestRow[guest];
    }

    public int tun(int n) {
        int best = NONE;
        int fewest = MOST_GUESTS + 1;
        for (int bits = 1; n > 0 && bits < 1 << rules.guests; bits++) {
            int many = Integer.bitCount(bits);
            if (many < fewest && now.swellsOf(bits) == n) {
                best = bits;
                fewest = many;
            }
        }
        return best;
    }

    public int row() {
        int most = 0;
        int taken = 0;
        // twice round the ring: a row may go on behind the last SEAT
        for (int k = 0; k < 2 * rules.seats; k++) {
            int seat = k < rules.seats ? k : k - rules.seats;
            taken = seat < MOST_SEATS && now.guestIn[seat] != NONE ? taken + 1 : 0;
            most = Math.max(most, taken);
        }
        return Math.min(most, rules.seats);
    }

    // ---- by hums.

    public int hear() {
        boolean isHeard = hums.take(tape, rules.seats);
        tape.length = 0;
        if (!isHeard) {
            refuse(1);
            return NONE;
        }
        return hums.count;
    }

    public int wets(int guest) {
        return isGuest(guest) ? hums.wetsOf(now, guest) : NONE;
    }

    public int tells(int guest, int what) {
        if (!isGuest(guest) || what < 0 || what > 2 || now.minute >= LAST_MINUTE) {
            return NONE;
        }
        int bits = hums.wetsOf(now, guest);
        if (bits == 0) {
            return NONE;
        }
        hums.seekTelling(now, guest, bits);
        return what == 0 ? hums.tellingMinutes : what == 1 ? hums.tellingSeat : hums.tellingLeft;
    }

    // ---- acts.

    public boolean drive(int seat, int on) {
        if (!isSeat(seat) || on < 0 || on > 1 || (now.hoopBits >> seat & 1) == on) {
            refuse(2);
            return false;
        }
        beginAct();
        now.hoopBits ^= 1 << seat;
        return true;
    }

    public boolean sit(int guest, int seat) {
        if (!isGuest(guest) || !isSeat(seat) || now.guestIn[seat] != NONE) {
            refuse(2);
            return false;
        }
        beginAct();
        now.seatOf[guest] = seat;
        now.findGuests();
        return true;
    }

    public boolean say(int guest, int swell) {
        if (!isGuest(guest) || swell < 0 || swell > MOST_SWELL || now.swell[guest] == swell) {
            refuse(2);
            return false;
        }
        beginAct();
        now.swell[guest] = swell;
        return true;
    }

    public int minutes(int n) {
        if (!canCome(n, 1, MOST_GOING)) {
            refuse(3);
            return NONE;
        }
        beginAct();
        return now.goOn(n, MANY, log);
    }

    public int chance(int n) {
        if (!canCome(n, 1, MOST_GOING)) {
            refuse(3);
            return NONE;
        }
        beginAct();
        int toasts = 0;
        for (int i = 0; i < n; i++) {
            toasts += drawToast();
            now.pass(log);
        }
        return toasts;
    }

    public boolean undo() {
        if (acts.count == 0) {
            refuse(4);
            return false;
        }
        acts.takeBack(now, log);
        plans.forget();
        return true;
    }

    public boolean seed(int seed) {
        if (seed < 0) {
            refuse(5);
            return false;
        }
        drawn = seed;
        return true;
    }

    // ---- questions.

    public long ask() {
        if (!hasTable()) {
            tape.length = 0;
            return NOTHING;
        }
        boolean isQuestion = reader.readQuestion();
        noteFault();
        tape.length = 0;
        if (!isQuestion) {
            return NOTHING;
        }
        return reader.asksByTest() ? answerTest() : answerSum();
    }

    // ---- images, refusals.

    public int image() {
        int k = paint(0, now.minute >> 8);
        k = paint(k, now.minute & 255);
        for (int s = 0; s < rules.seats; s++) {
            k = paint(k, now.hoopBits >> s & 1);
        }
        for (int g = 0; g < rules.guests && g < MOST_GUESTS; g++) {
            k = paint(k, now.seatOf[g]);
            k = paint(k, now.swell[g]);
        }
        pictureLength = paint(k, checkByte(picture, k));
        return pictureLength;
    }

    public int octet(int k) {
        return k >= 0 && k < pictureLength && k < picture.length ? picture[k] : NONE;
    }

    public boolean on() {
        boolean isTaken = hasTable() && isImage();
        if (isTaken) {
            takeImage();
            forgetThePast();
        } else {
            refuse(5);
        }
        tape.length = 0;
        return isTaken;
    }

    public int status(int what) {
        return what >= 0 && what < refusals.length ? refusals[what] : NONE;
    }

    // ---- what the calls share.

    private void refuse(int kind) {
        if (kind >= 0 && kind < refusals.length) {
            refusals[kind]++;
        }
    }

    private void noteFault() {
        lastFault = reader.fault;
        lastPlace = reader.place;
    }

    private boolean hasTable() {
        return rules.seats > 0;
    }

    private boolean isGuest(int guest) {
        return guest >= 0 && guest < rules.guests && guest < MOST_GUESTS;
    }

    private boolean isSeat(int seat) {
        return seat >= 0 && seat < rules.seats && seat < MOST_SEATS;
    }

    /** Whether n, from least to most, MINUTES can come from now on. */
    private boolean canCome(int n, int least, int most) {
        return hasTable() && n >= least && n <= most && now.minute + n <= LAST_MINUTE;
    }

    private void beginAct() {
        acts.remember(now, log);
        plans.forget();
    }

    private void forgetThePast() {
        log.count = 0;
        acts.count = 0;
        plans.forget();
    }

    private int draw(int m) {
        drawn = (1103515245L * drawn + 12345L) & 0x7FFFFFFFL;
        return m > 0 ? (int) (drawn / 64 % m) : 0;
    }

    /** Begins a MINUTE by the seed: how many toasts (0 or 1). */
    private int drawToast() {
        int hundredth = draw(100);
        if (hundredth >= rules.toast || rules.guests == 0) {
            return 0;
        }
        int guest = draw(rules.guests);
        if (isGuest(guest)) {
            now.swell[guest] = Math.min(MOST_SWELL, now.swell[guest] + TOAST_SWELL);
        }
        return 1;
    }

    private long answerTest() {
        int first = NONE;
        int last = NONE;
        int often = 0;
        for (int g = 0; g < rules.guests; g++) {
            if (now.value(reader.question, g, 0) != 0) {
                first = often == 0 ? g : first;
                last = g;
                often++;
            }
        }
        return reader.asked == Word.FIRST ? first : reader.asked == Word.LAST ? last : often;
    }

    private long answerSum() {
        long total = 0;
        long most = 0;
        long least = 0;
        for (int g = 0; g < rules.guests; g++) {
            long value = now.value(reader.question, g, 0);
            total += value;
            most = g == 0 ? value : Math.max(most, value);
            least = g == 0 ? value : Math.min(least, value);
        }
        return reader.asked == Word.TOTAL ? total : reader.asked == Word.MOST ? most : least;
    }

    /** Writes a byte of the IMAGE: where the next one goes. */
    private int paint(int k, int octet) {
        if (k < 0 || k >= picture.length) {
            return k;
        }
        picture[k] = octet;
        return k + 1;
    }

    /** The last byte of an IMAGE, by the bytes ahead of it. */
    private static int checkByte(int[] bytes, int many) {
        int c = 223;
        for (int k = 0; k < many && k < bytes.length; k++) {
            c = (3 * c + bytes[k]) % 251;
        }
        return c;
    }

    private boolean isImage() {
        int many = 2 + rules.seats + 2 * rules.guests;
        if (tape.length != many + 1 || tape.byteAt(many) != checkByte(tape.bytes, many)) {
            return false;
        }
        if (tape.byteAt(0) * 256 + tape.byteAt(1) > LAST_MINUTE) {
            return false;
        }
        for (int s = 0; s < rules.seats; s++) {
            if (tape.byteAt(2 + s) > 1) {
                return false;
            }
        }
        int taken = 0;
        for (int g = 0; g < rules.guests; g++) {
            int seat = tape.byteAt(2 + rules.seats + 2 * g);
            if (!isSeat(seat) || (taken >> seat & 1) == 1) {
                return false;
            }
            if (tape.byteAt(3 + rules.seats + 2 * g) > MOST_SWELL) {
                return false;
            }
            taken |= 1 << seat;
        }
        return true;
    }

    private void takeImage() {
        now.minute = tape.byteAt(0) * 256 + tape.byteAt(1);
        now.hoopBits = 0;
        for (int s = 0; s < rules.seats; s++) {
            now.hoopBits |= tape.byteAt(2 + s) << s;
        }
        for (int g = 0; g < rules.guests && g < MOST_GUESTS; g++) {
            now.seatOf[g] = tape.byteAt(2 + rules.seats + 2 * g);
            now.swell[g] = tape.byteAt(3 + rules.seats + 2 * g);
        }
        now.findGuests();
    }

    /** The bytes that were fed. */
    private static final class Tape {
        final int[] bytes = new int[MOST_BYTES];
        int length = 0;

        void add(int number) {
            for (int shift = 24; shift >= 0; shift -= 8) {
                if (length < bytes.length) {
                    bytes[length] = number >>> shift & 255;
                    length++;
                }
            }
        }

        int byteAt(int k) {
            return k >= 0 && k < length && k < bytes.length ? bytes[k] : NONE;
        }
    }

    /** The words of TABLES and QUESTIONS, by their place in ALL_WORDS; the first ones are OWN WORDS. */
    private static final class Word {
        static final int NO_WORD = -1;
        static final int TABLE = 0;
        static final int GUEST = 1;
        static final int AT = 2;
        static final int WET = 3;
        static final int HOT = 4;
        static final int HOOP = 5;
        static final int SWELLS = 6;
        static final int STARTS = 7;
        static final int SPILLS = 8;
        static final int TOAST = 9;
        static final int SWELL = 10;
        static final int MINUTE = 11;
        static final int LEFT = 12;
        static final int RIGHT = 13;
        static final int HOOPED = 14;
        static final int LOAD = 15;
        static final int SIZE = 16;
        static final int NUMBER = 17;
        static final int SEAT = 18;
        static final int BESIDE = 19;
        static final int FAR = 20;
        static final int OR = 21;
        static final int AND = 22;
        static final int NOT = 23;
        static final int ALL = 24;
        static final int MIN = 25;
        static final int MAX = 26;
        static final int OWN_WORDS = 27;
        static final int FIRST = 27;
        static final int LAST = 28;
        static final int OFTEN = 29;
        static final int TOTAL = 30;
        static final int MOST = 31;
        static final int LEAST = 32;
        static final String ALL_WORDS = "table guest at wet hot hoop swells starts spills toast swell minute left right hooped load size number seat beside far or and not all min max first last often total most least ";
    }

    /** A SUM or a TEST, its parts ahead of the sign that joins them. */
    private static final class Code {
        final int[] cells = new int[MOST_BYTES];
        int length = 0;
        boolean isGiven = false;

        void add(int cell) {
            if (length < cells.length) {
                cells[length] = cell;
                length++;
            }
        }

        void clear() {
            length = 0;
            isGiven = false;
        }
    }

    /** What a TABLE tells. */
    private static final class Table {
        int statements = 0;
        int seats = 0;
        int guests = 0;
        int hoopBits = 0;
        int seatBits = 0;
        int toast = 0;
        final int[] letters = new int[MOST_GUESTS * MOST_LETTERS];
        final int[] seatOf = new int[MOST_GUESTS];
        final int[] wet = new int[MOST_GUESTS];
        final int[] hot = new int[MOST_GUESTS];
        final Code swells = new Code();
        final Code starts = new Code();
        final Code spills = new Code();

        void clear() {
            statements = 0;
            seats = 0;
            guests = 0;
            hoopBits = 0;
            seatBits = 0;
            toast = 0;
            swells.clear();
            swells.add(SIGNS + Word.WET);
            starts.clear();
            starts.add(SIGNS + Word.SWELL);
            starts.add(50);
            starts.add(SIGNS + '>');
            spills.clear();
            spills.add(SIGNS + Word.SIZE);
            spills.add(2);
            spills.add(SIGNS + '/');
        }
    }

    /** Reads the tape as a TABLE or as a QUESTION, token by token; the first FAULT ends it. */
    private static final class Reader {
        private static final int END = 0;
        private static final int WORD = 1;
        private static final int NUMBER = 2;
        private static final int SIGN = 3;
        /** A word or a number without the blank that it needs ahead of it. */
        private static final int GLUED = 4;
        private static final int NO_SIGN = -1;

        private static final int NO_SUCH_TEXT = 1;
        private static final int NO_SUCH_NUMBER = 2;
        private static final int NAME_TWICE = 3;
        private static final int TOO_MANY_OPEN = 4;
        private static final int TOO_MANY = 5;

        private final Tape text;
        final Code question = new Code();
        int asked = Word.NO_WORD;
        int fault = 0;
        int place = NONE;
        private Code code = question;
        /** SWELLS, STARTS or SPILLS where a SUM or TEST of these is read; NO_WORD in a QUESTION. */
        private int within = Word.NO_WORD;
        private int open = 0;
        private int kind = END;
        private int start = 0;
        private int end = 0;
        private int word = Word.NO_WORD;
        private int sign = NO_SIGN;
        private int number = 0;
        /** The number that was taken last, and where it stood. */
        private int taken = 0;
        private int takenAt = 0;

        Reader(Tape text) {
            this.text = text;
        }

        boolean asksByTest() {
            return asked == Word.FIRST || asked == Word.LAST || asked == Word.OFTEN;
        }

        boolean readTable(Table draft) {
            begin();
            draft.clear();
            for (int n = 0; n <= MOST_STATEMENTS && kind != END && fault == 0; n++) {
                if (n == MOST_STATEMENTS) {
                    fail(TOO_MANY, start);
                } else if (readStatement(draft, n) && takeSign(';')) {
                    draft.statements++;
                }
            }
            if (fault == 0 && draft.statements == 0) {
                fail(NO_SUCH_TEXT, text.length);
            }
            return fault == 0;
        }

        boolean readQuestion() {
            begin();
            asked = word;
            if (asked < Word.FIRST || asked > Word.LEAST) {
                return fail(NO_SUCH_TEXT, start);
            }
            next();
            startCode(question, Word.NO_WORD);
            if (!(asksByTest() ? readTest() : readSum())) {
                return false;
            }
            return kind == END || fail(NO_SUCH_TEXT, start);
        }

        private void begin() {
            fault = 0;
            place = NONE;
            end = 0;
            next();
        }

        private boolean fail(int newFault, int newPlace) {
            fault = newFault;
            place = newPlace;
            return false;
        }

        // ---- tokens.

        private void next() {
            start = end;
            while (start < text.length && isBlank(text.byteAt(start))) {
                start++;
            }
            end = start;
            word = Word.NO_WORD;
            sign = NO_SIGN;
            int first = text.byteAt(start);
            int ahead = text.byteAt(start - 1);
            if (start >= text.length) {
                kind = END;
            } else if (!isLetter(first) && !isDigit(first)) {
                kind = SIGN;
                sign = first;
                end = start + 1;
            } else if (isLetter(ahead) || isDigit(ahead)) {
                kind = GLUED;
            } else if (isLetter(first)) {
                kind = WORD;
                while (end < text.length && isLetter(text.byteAt(end))) {
                    end++;
                }
                word = findWord();
            } else {
                kind = NUMBER;
                while (end < text.length && isDigit(text.byteAt(end))) {
                    end++;
                }
                number = findNumber();
            }
        }

        /** Which of ALL_WORDS stands from start to end. */
        private int findWord() {
            int found = 0;
            int at = start;
            boolean isSame = true;
            for (int i = 0; i < Word.ALL_WORDS.length(); i++) {
                int c = Word.ALL_WORDS.charAt(i);
                if (c != ' ') {
                    isSame = isSame && at >= 0 && at < end && at < MOST_BYTES && text.bytes[at] == c;
                    at++;
                } else if (isSame && at == end) {
                    return found;
                } else {
                    found++;
                    at = start;
                    isSame = true;
                }
            }
            return Word.NO_WORD;
        }

        /** The number from start to end, by MOST_DIGITS digits at the most. */
        private int findNumber() {
            int found = 0;
            for (int k = start; k < end && k < start + MOST_DIGITS; k++) {
                if (k >= 0 && k < MOST_BYTES) {
                    found = 10 * found + text.bytes[k] - '0';
                }
            }
            return found;
        }

        private static boolean isBlank(int c) {
            return c == 10 || c == 32;
        }

        private static boolean isLetter(int c) {
            return c >= 'a' && c <= 'z';
        }

        private static boolean isDigit(int c) {
            return c >= '0' && c <= '9';
        }

        private boolean takeSign(int wanted) {
            if (sign != wanted) {
                return fail(NO_SUCH_TEXT, start);
            }
            next();
            return true;
        }

        private boolean takeWord(int wanted) {
            if (word != wanted) {
                return fail(NO_SUCH_TEXT, start);
            }
            next();
            return true;
        }

        private boolean takeNumber() {
            if (kind != NUMBER) {
                return fail(NO_SUCH_TEXT, start);
            }
            if (end - start > MOST_DIGITS) {
                return fail(NO_SUCH_TEXT, start + MOST_DIGITS);
            }
            taken = number;
            takenAt = start;
            next();
            return true;
        }

        private boolean takeNumberUpTo(int most) {
            return takeNumber() && (taken <= most || fail(NO_SUCH_NUMBER, takenAt));
        }

        /** Takes the number of a SEAT that is none of these. */
        private boolean takeSeat(int seats, int bits) {
            return takeNumber() && (taken < seats && (bits >> taken & 1) == 0 || fail(NO_SUCH_NUMBER, takenAt));
        }

        // ---- statements.

        private boolean readStatement(Table draft, int n) {
            if ((n == 0) != (word == Word.TABLE)) {
                return fail(NO_SUCH_TEXT, start);
            }
            switch (word) {
                case Word.TABLE: return readSeats(draft);
                case Word.GUEST: return readGuest(draft);
                case Word.HOOP: return readHoop(draft);
                case Word.SWELLS: return startRule(draft.swells) && readSum();
                case Word.STARTS: return startRule(draft.starts) && readTest();
                case Word.SPILLS: return startRule(draft.spills) && readSum();
                case Word.TOAST: return readToast(draft);
                default: return fail(NO_SUCH_TEXT, start);
            }
        }

        private boolean readSeats(Table draft) {
            next();
            if (!takeNumberUpTo(MOST_SEATS)) {
                return false;
            }
            if (taken < LEAST_SEATS) {
                return fail(NO_SUCH_NUMBER, takenAt);
            }
            draft.seats = taken;
            return true;
        }

        private boolean readGuest(Table draft) {
            int g = draft.guests;
            if (g < 0 || g >= MOST_GUESTS) {
                return fail(TOO_MANY, start);
            }
            next();
            if (!readName(draft, g) || !takeWord(Word.AT) || !takeSeat(draft.seats, draft.seatBits)) {
                return false;
            }
            draft.seatOf[g] = taken;
            draft.seatBits |= 1 << taken;
            if (!takeWord(Word.WET) || !takeNumberUpTo(MOST_WET)) {
                return false;
            }
            draft.wet[g] = taken;
            if (!takeWord(Word.HOT) || !takeNumberUpTo(MOST_HOT)) {
                return false;
            }
            draft.hot[g] = taken;
            draft.guests++;
            return true;
        }

        private boolean readName(Table draft, int g) {
            if (kind != WORD || word >= 0 && word < Word.OWN_WORDS) {
                return fail(NO_SUCH_TEXT, start);
            }
            if (end - start > MOST_LETTERS) {
                return fail(NO_SUCH_TEXT, start + MOST_LETTERS);
            }
            for (int k = 0; k < MOST_LETTERS; k++) {
                int c = start + k < end ? text.byteAt(start + k) - 'a' + 1 : 0;
                draft.letters[g * MOST_LETTERS + k] = c;
            }
            for (int other = 0; other < g; other++) {
                if (areNamesAlike(draft, g, other)) {
                    return fail(NAME_TWICE, start);
                }
            }
            next();
            return true;
        }

        private static boolean areNamesAlike(Table draft, int g, int other) {
            for (int k = 0; k < MOST_LETTERS; k++) {
                if (draft.letters[g * MOST_LETTERS + k] != draft.letters[other * MOST_LETTERS + k]) {
                    return false;
                }
            }
            return true;
        }

        private boolean readHoop(Table draft) {
            next();
            if (!takeSeat(draft.seats, draft.hoopBits)) {
                return false;
            }
            draft.hoopBits |= 1 << taken;
            return true;
        }

        private boolean readToast(Table draft) {
            next();
            if (!takeNumberUpTo(MOST_TOAST)) {
                return false;
            }
            draft.toast = taken;
            return true;
        }

        private boolean startRule(Code rule) {
            if (rule.isGiven) {
                return fail(TOO_MANY, start);
            }
            startCode(rule, word);
            next();
            return true;
        }

        // ---- tests and sums; MOST_OPEN keeps low how deep they call one another.

        private void startCode(Code newCode, int newWithin) {
            code = newCode;
            code.clear();
            code.isGiven = true;
            within = newWithin;
            open = 0;
        }

        /** Opens a ( [ not beside far, whose token stands here. */
        private boolean openHere() {
            if (open >= MOST_OPEN) {
                return fail(TOO_MANY_OPEN, start);
            }
            open++;
            next();
            return true;
        }

        private boolean readTest() {
            if (!readBoth()) {
                return false;
            }
            for (int n = 0; n < MOST_BYTES && word == Word.OR; n++) {
                next();
                if (!readBoth()) {
                    return false;
                }
                code.add(SIGNS + Word.OR);
            }
            return true;
        }

        private boolean readBoth() {
            if (!readFact()) {
                return false;
            }
            for (int n = 0; n < MOST_BYTES && word == Word.AND; n++) {
                next();
                if (!readFact()) {
                    return false;
                }
                code.add(SIGNS + Word.AND);
            }
            return true;
        }

        private boolean readFact() {
            if (word == Word.NOT) {
                return readNot();
            }
            if (word == Word.ALL) {
                code.add(1);
                next();
                return true;
            }
            if (sign == '[') {
                if (!openHere() || !readTest() || !takeSign(']')) {
                    return false;
                }
                open--;
                return true;
            }
            if (!readSum()) {
                return false;
            }
            int comparing = sign;
            if (comparing != '<' && comparing != '>' && comparing != '=') {
                return fail(NO_SUCH_TEXT, start);
            }
            next();
            if (!readSum()) {
                return false;
            }
            code.add(SIGNS + comparing);
            return true;
        }

        private boolean readNot() {
            if (!openHere() || !readFact()) {
                return false;
            }
            open--;
            code.add(SIGNS + Word.NOT);
            return true;
        }

        private boolean readSum() {
            if (!readProduct()) {
                return false;
            }
            for (int n = 0; n < MOST_BYTES && (sign == '+' || sign == '-'); n++) {
                int joining = sign;
                next();
                if (!readProduct()) {
                    return false;
                }
                code.add(SIGNS + joining);
            }
            return true;
        }

        private boolean readProduct() {
            if (!readPart()) {
                return false;
            }
            for (int n = 0; n < MOST_BYTES && (sign == '*' || sign == '/'); n++) {
                int joining = sign;
                next();
                if (!readPart()) {
                    return false;
                }
                code.add(SIGNS + joining);
            }
            return true;
        }

        private boolean readPart() {
            if (kind == NUMBER) {
                code.add(number);
                return takeNumber();
            }
            if (sign == '(') {
                return readBracketed();
            }
            if (word == Word.MIN || word == Word.MAX) {
                return readPair();
            }
            if (within == Word.NO_WORD && (word == Word.BESIDE || word == Word.FAR)) {
                return readFrom();
            }
            if (!isKnownHere()) {
                return fail(NO_SUCH_TEXT, start);
            }
            code.add(SIGNS + word);
            next();
            return true;
        }

        private boolean readBracketed() {
            if (!openHere() || !readSum() || !takeSign(')')) {
                return false;
            }
            open--;
            return true;
        }

        private boolean readPair() {
            int joining = word;
            next();
            if (sign != '(') {
                return fail(NO_SUCH_TEXT, start);
            }
            if (!openHere() || !readSum() || !takeSign(',') || !readSum() || !takeSign(')')) {
                return false;
            }
            open--;
            code.add(SIGNS + joining);
            return true;
        }

        private boolean readFrom() {
            int joining = word;
            if (!openHere() || !readPart()) {
                return false;
            }
            open--;
            code.add(SIGNS + joining);
            return true;
        }

        private boolean isKnownHere() {
            switch (word) {
                case Word.WET:
                case Word.HOT:
                case Word.SWELL:
                case Word.MINUTE: return true;
                case Word.LEFT:
                case Word.RIGHT:
                case Word.HOOPED: return within == Word.SWELLS;
                case Word.LOAD: return within == Word.STARTS || within == Word.NO_WORD;
                case Word.SIZE: return within == Word.SPILLS;
                case Word.NUMBER:
                case Word.SEAT: return within == Word.NO_WORD;
                default: return false;
            }
        }
    }

    /** What is so at a MINUTE, and how MINUTES go by. */
    private static final class Ring {
        private static final int MOST_STACK = 64;

        Table rules;
        int minute = 0;
        int hoopBits = 0;
        /** Who BURST in the latest MINUTE. */
        int burstBits = 0;
        final int[] seatOf = new int[MOST_GUESTS];
        final int[] swell = new int[MOST_GUESTS];
        final int[] wet = new int[MOST_GUESTS];
        final int[] guestIn = new int[MOST_SEATS];
        private final int[] swollen = new int[MOST_GUESTS];
        private final int[] stack = new int[MOST_STACK];

        Ring(Table rules) {
            this.rules = rules;
        }

        void start(Table newRules) {
            rules = newRules;
            minute = 0;
            hoopBits = rules.hoopBits;
            for (int g = 0; g < MOST_GUESTS; g++) {
                seatOf[g] = rules.seatOf[g];
                wet[g] = rules.wet[g];
                swell[g] = 0;
            }
            findGuests();
        }

        void copy(Ring other) {
            rules = other.rules;
            minute = other.minute;
            hoopBits = other.hoopBits;
            System.arraycopy(other.seatOf, 0, seatOf, 0, MOST_GUESTS);
            System.arraycopy(other.swell, 0, swell, 0, MOST_GUESTS);
            System.arraycopy(other.wet, 0, wet, 0, MOST_GUESTS);
            System.arraycopy(other.guestIn, 0, guestIn, 0, MOST_SEATS);
        }

        /** Tells SEAT by SEAT who is in it, by where the GUESTS are. */
        void findGuests() {
            for (int s = 0; s < MOST_SEATS; s++) {
                guestIn[s] = NONE;
            }
            for (int g = 0; g < rules.guests && g < MOST_GUESTS; g++) {
                if (seatOf[g] >= 0 && seatOf[g] < MOST_SEATS) {
                    guestIn[seatOf[g]] = g;
                }
            }
        }

        int swellsOf(int guestBits) {
            int all = 0;
            for (int g = 0; g < MOST_GUESTS; g++) {
                all += (guestBits >> g & 1) * swell[g];
            }
            return all;
        }

        int loadOf(int seat) {
            int load = 0;
            for (int g = 0; g < rules.guests && g < MOST_GUESTS; g++) {
                int apart = seatOf[g] > seat ? seatOf[g] - seat : seat - seatOf[g];
                if (apart <= 1 || apart == rules.seats - 1) {
                    load += swell[g];
                }
            }
            return load;
        }

        /** The SWELL of the GUEST in a SEAT, 0 without; a SEAT once round too far either way counts. */
        private int swellIn(int seat) {
            int s = seat < 0 ? seat + rules.seats : seat >= rules.seats ? seat - rules.seats : seat;
            int g = s >= 0 && s < MOST_SEATS ? guestIn[s] : NONE;
            return g >= 0 && g < MOST_GUESTS ? swell[g] : 0;
        }

        /** n MINUTES: how many BURST; where more than most have burst already, the rest is left. */
        int goOn(int n, int most, BurstLog log) {
            int count = 0;
            for (int i = 0; i < n && count <= most; i++) {
                pass(log);
                count += Integer.bitCount(burstBits);
            }
            return count;
        }

        /** A MINUTE; with a log, what BURSTS is KEPT there. */
        void pass(BurstLog log) {
            swellAll();
            burstBits = 0;
            for (int g = 0; g < rules.guests && g < MOST_GUESTS; g++) {
                boolean isHooped = (hoopBits >> seatOf[g] & 1) == 1;
                if (isHooped || value(rules.starts, g, 0) == 0) {
                    continue;
                }
                burstBits |= 1 << g;
                if (log != null) {
                    log.add(minute, g, seatOf[g], swell[g]);
                }
                spill(g);
            }
            if (minute < LAST_MINUTE) {
                minute++;
            }
        }

        private void swellAll() {
            for (int g = 0; g < rules.guests && g < MOST_GUESTS; g++) {
                int more = swell[g] + value(rules.swells, g, 0);
                swollen[g] = more < 0 ? 0 : more > MOST_SWELL ? MOST_SWELL : more;
            }
            System.arraycopy(swollen, 0, swell, 0, Math.min(rules.guests, MOST_GUESTS));
        }

        private void spill(int guest) {
            if (guest < 0 || guest >= MOST_GUESTS) {
                return;
            }
            int size = swell[guest];
            swell[guest] = 0;
            for (int side = -1; side <= 1; side += 2) {
                int seat = seatOf[guest] + side;
                seat = seat < 0 ? rules.seats - 1 : seat >= rules.seats ? 0 : seat;
                int g = seat >= 0 && seat < MOST_SEATS ? guestIn[seat] : NONE;
                if (g >= 0 && g < MOST_GUESTS) {
                    int spilt = value(rules.spills, g, size);
                    int more = swell[g] + (spilt < 0 ? 0 : spilt);
                    swell[g] = more > MOST_SWELL ? MOST_SWELL : more;
                }
            }
        }

        /** What a SUM is of a GUEST; a TEST is 1 where it holds, else 0. */
        int value(Code code, int guest, int size) {
            int top = 0;
            for (int i = 0; i < code.length && i < code.cells.length; i++) {
                int sign = code.cells[i] - SIGNS;
                if (sign <= Word.SEAT) {
                    if (top >= stack.length) {
                        return 0;
                    }
                    stack[top] = sign < 0 ? code.cells[i] : known(sign, guest, size);
                    top++;
                } else if (sign == Word.NOT || sign == Word.BESIDE || sign == Word.FAR) {
                    if (top < 1) {
                        return 0;
                    }
                    stack[top - 1] = turned(sign, stack[top - 1], guest);
                } else {
                    if (top < 2) {
                        return 0;
                    }
                    top--;
                    stack[top - 1] = joined(sign, stack[top - 1], stack[top]);
                }
            }
            return top == 1 ? stack[0] : 0;
        }

        private int known(int sign, int guest, int size) {
            if (guest < 0 || guest >= MOST_GUESTS) {
                return 0;
            }
            int seat = seatOf[guest];
            switch (sign) {
                case Word.WET: return wet[guest];
                case Word.HOT: return rules.hot[guest];
                case Word.SWELL: return swell[guest];
                case Word.MINUTE: return minute;
                case Word.LEFT: return swellIn(seat - 1);
                case Word.RIGHT: return swellIn(seat + 1);
                case Word.HOOPED: return hoopBits >> seat & 1;
                case Word.LOAD: return loadOf(seat);
                case Word.SIZE: return size;
                case Word.NUMBER: return guest;
                case Word.SEAT: return seat;
                default: return 0;
            }
        }

        private int turned(int sign, int value, int guest) {
            if (sign == Word.NOT) {
                return value == 0 ? 1 : 0;
            }
            if (guest < 0 || guest >= MOST_GUESTS || rules.seats <= 0) {
                return 0;
            }
            if (sign == Word.BESIDE) {
                return swellIn(Math.floorMod(seatOf[guest] + value, rules.seats));
            }
            if (value < 0 || value >= rules.guests || value >= MOST_GUESTS) {
                return NONE;
            }
            int apart = Math.abs(seatOf[guest] - seatOf[value]);
            return Math.min(apart, rules.seats - apart);
        }

        private static int joined(int sign, int a, int b) {
            switch (sign) {
                case '+': return held((long) a + b);
                case '-': return held((long) a - b);
                case '*': return held((long) a * b);
                case '/': return b == 0 ? 0 : Math.floorDiv(a, b);
                case '<': return a < b ? 1 : 0;
                case '>': return a > b ? 1 : 0;
                case '=': return a == b ? 1 : 0;
                case Word.OR: return a | b;
                case Word.AND: return a & b;
                case Word.MIN: return a < b ? a : b;
                case Word.MAX: return a > b ? a : b;
                default: return 0;
            }
        }

        private static int held(long value) {
            return value > HELD ? HELD : value < -HELD ? -HELD : (int) value;
        }
    }

    /** What is KEPT, the oldest first. */
    private static final class BurstLog {
        final int[] cells = new int[MOST_KEPT * KEPT_CELLS];
        int count = 0;

        void add(int minute, int guest, int seat, int swell) {
            if (count >= MOST_KEPT) {
                System.arraycopy(cells, KEPT_CELLS, cells, 0, (MOST_KEPT - 1) * KEPT_CELLS);
                count = MOST_KEPT - 1;
            }
            int at = count * KEPT_CELLS;
            cells[at] = minute;
            cells[at + 1] = guest;
            cells[at + 2] = seat;
            cells[at + 3] = swell;
            count++;
        }
    }

    /** What was so ahead of each ACT that can be undone; the rows go round, the oldest is written over. */
    private static final class Acts {
        private static final int SEATS_FROM = 3;
        private static final int SWELLS_FROM = SEATS_FROM + MOST_GUESTS;
        private static final int KEPT_FROM = SWELLS_FROM + MOST_GUESTS;

        private final int[][] rows = new int[MOST_ACTS][KEPT_FROM + MOST_KEPT * KEPT_CELLS];
        private int next = 0;
        int count = 0;

        void remember(Ring ring, BurstLog log) {
            int[] row = rows[next];
            row[0] = ring.minute;
            row[1] = ring.hoopBits;
            row[2] = log.count;
            System.arraycopy(ring.seatOf, 0, row, SEATS_FROM, MOST_GUESTS);
            System.arraycopy(ring.swell, 0, row, SWELLS_FROM, MOST_GUESTS);
            System.arraycopy(log.cells, 0, row, KEPT_FROM, MOST_KEPT * KEPT_CELLS);
            next = next + 1 < MOST_ACTS ? next + 1 : 0;
            count = Math.min(count + 1, MOST_ACTS);
        }

        void takeBack(Ring ring, BurstLog log) {
            if (count <= 0) {
                return;
            }
            count--;
            next = next > 0 ? next - 1 : MOST_ACTS - 1;
            int[] row = rows[next];
            ring.minute = row[0];
            ring.hoopBits = row[1];
            log.count = row[2];
            System.arraycopy(row, SEATS_FROM, ring.seatOf, 0, MOST_GUESTS);
            System.arraycopy(row, SWELLS_FROM, ring.swell, 0, MOST_GUESTS);
            System.arraycopy(row, KEPT_FROM, log.cells, 0, MOST_KEPT * KEPT_CELLS);
            ring.findGuests();
        }
    }

    /** What is HEARD, and what it tells of how wet a GUEST's talk is. */
    private static final class Hums {
        private final Ring trial;
        private final int[] cells = new int[MOST_HEARD * HEARD_CELLS];
        int count = 0;
        /** Wetness by wetness the SWELLS of all GUESTS, MINUTE AHEAD by MINUTE AHEAD. */
        private final int[][] swells = new int[WETNESSES][MOST_HEARD_AHEAD * MOST_GUESTS];
        int tellingMinutes = NONE;
        int tellingSeat = NONE;
        int tellingLeft = NONE;

        Hums(Ring trial) {
            this.trial = trial;
        }

        boolean take(Tape tape, int seats) {
            int many = tape.length / HEARD_CELLS;
            if (many < 1 || many > MOST_HEARD || tape.length != many * HEARD_CELLS) {
                return false;
            }
            for (int k = 0; k < many; k++) {
                int swell = tape.byteAt(k * HEARD_CELLS + 2);
                if (tape.byteAt(k * HEARD_CELLS) > MOST_HEARD_AHEAD
                        || tape.byteAt(k * HEARD_CELLS + 1) >= seats
                        || swell > MOST_SWELL && swell != NOBODY) {
                    return false;
                }
            }
            System.arraycopy(tape.bytes, 0, cells, 0, many * HEARD_CELLS);
            count = many;
            return true;
        }

        int wetsOf(Ring now, int guest) {
            int last = lastMinutes();
            int bits = 0;
            for (int wet = 0; wet < WETNESSES && now.minute + last <= LAST_MINUTE; wet++) {
                if (fits(now, guest, wet, last)) {
                    bits |= 1 << wet;
                }
            }
            return bits;
        }

        private int lastMinutes() {
            int last = 0;
            for (int k = 0; k < count && k < MOST_HEARD; k++) {
                last = Math.max(last, cells[k * HEARD_CELLS]);
            }
            return last;
        }

        private boolean fits(Ring now, int guest, int wet, int last) {
            tryWet(now, guest, wet);
            for (int minutes = 0; minutes <= last; minutes++) {
                if (minutes > 0) {
                    trial.pass(null);
                }
                if (!isSo(minutes)) {
                    return false;
                }
            }
            return true;
        }

        private void tryWet(Ring now, int guest, int wet) {
            trial.copy(now);
            if (guest >= 0 && guest < MOST_GUESTS) {
                trial.wet[guest] = wet;
            }
        }

        /** Whether all that is HEARD of these MINUTES is so on trial. */
        private boolean isSo(int minutes) {
            for (int k = 0; k < count && k < MOST_HEARD; k++) {
                int seat = cells[k * HEARD_CELLS + 1];
                if (cells[k * HEARD_CELLS] != minutes || seat < 0 || seat >= MOST_SEATS) {
                    continue;
                }
                int g = trial.guestIn[seat];
                int swell = g >= 0 && g < MOST_GUESTS ? trial.swell[g] : NOBODY;
                if (cells[k * HEARD_CELLS + 2] != swell) {
                    return false;
                }
            }
            return true;
        }

        void seekTelling(Ring now, int guest, int bits) {
            int last = Math.min(MOST_HEARD_AHEAD, LAST_MINUTE - now.minute);
            tellingLeft = WETNESSES + 1;
            tellAhead(now, guest, bits, last);
            for (int minutes = 1; minutes <= last; minutes++) {
                for (int s = 0; s < now.rules.seats && s < MOST_SEATS; s++) {
                    int left = mostLeft(bits, minutes, now.guestIn[s]);
                    if (left < tellingLeft) {
                        tellingMinutes = minutes;
                        tellingSeat = s;
                        tellingLeft = left;
                    }
                }
            }
        }

        private void tellAhead(Ring now, int guest, int bits, int last) {
            for (int wet = 0; wet < WETNESSES; wet++) {
                if ((bits >> wet & 1) == 0) {
                    continue;
                }
                tryWet(now, guest, wet);
                for (int k = 0; k < last && k < MOST_HEARD_AHEAD; k++) {
                    trial.pass(null);
                    System.arraycopy(trial.swell, 0, swells[wet], k * MOST_GUESTS, MOST_GUESTS);
                }
            }
        }

        /** How many of the bits are left at the most once this GUEST's SWELL then is known. */
        private int mostLeft(int bits, int minutes, int guest) {
            int at = (minutes - 1) * MOST_GUESTS + guest;
            if (guest < 0 || at < 0 || at >= MOST_HEARD_AHEAD * MOST_GUESTS) {
                return Integer.bitCount(bits);
            }
            int most = 0;
            for (int wet = 0; wet < WETNESSES; wet++) {
                int alike = 0;
                for (int other = 0; other < WETNESSES; other++) {
                    boolean areBoth = (bits >> wet & bits >> other & 1) == 1;
                    alike += areBoth && swells[wet][at] == swells[other][at] ? 1 : 0;
                }
                most = Math.max(most, alike);
            }
            return most;
        }
    }

    /** Seeks the HOOPS that hold, the CHANGE and the SEATING by which fewest BURST. */
    private static final class Plans {
        private static final int MOST_ROWS = 5040;

        private final Ring trial;
        /** The MINUTES for which the change and the seating are known as things stand, 0 for none. */
        private int changeFor = 0;
        private int seatingFor = 0;
        int changeLess = NONE;
        int changeOther = NONE;
        int changeBursts = 0;
        int seatingBursts = 0;
        private final int[] row = new int[MOST_GUESTS];
        final int[] bestRow = new int[MOST_GUESTS];

        Plans(Ring trial) {
            this.trial = trial;
        }

        void forget() {
            changeFor = 0;
            seatingFor = 0;
        }

        int seekHoops(Ring now, int n) {
            int best = NONE;
            int fewest = MOST_SEATS + 1;
            for (int bits = 0; bits < 1 << now.rules.seats; bits++) {
                int many = Integer.bitCount(bits);
                if (many >= fewest) {
                    continue;
                }
                trial.copy(now);
                trial.hoopBits = bits;
                if (trial.goOn(n, 0, null) == 0) {
                    best = bits;
                    fewest = many;
                }
            }
            return best;
        }

        void seekChange(Ring now, int n) {
            if (changeFor == n) {
                return;
            }
            changeFor = n;
            trial.copy(now);
            changeLess = NONE;
            changeOther = NONE;
            changeBursts = trial.goOn(n, MANY, null);
            for (int less = 0; less < now.rules.guests && less < MOST_GUESTS; less++) {
                for (int other = less + 1; other < now.rules.guests && other < MOST_GUESTS; other++) {
                    trial.copy(now);
                    trial.seatOf[less] = now.seatOf[other];
                    trial.seatOf[other] = now.seatOf[less];
                    trial.findGuests();
                    int count = trial.goOn(n, changeBursts - 1, null);
                    if (count < changeBursts) {
                        changeLess = less;
                        changeOther = other;
                        changeBursts = count;
                    }
                }
            }
        }

        void seekSeating(Ring now, int n) {
            if (seatingFor == n) {
                return;
            }
            seatingFor = n;
            seatingBursts = MANY;
            takeFirstRow(now);
            boolean isRow = true;
            for (int k = 0; k < MOST_ROWS && isRow && seatingBursts > 0; k++) {
                trial.copy(now);
                System.arraycopy(row, 0, trial.seatOf, 0, MOST_GUESTS);
                trial.findGuests();
                int count = trial.goOn(n, seatingBursts - 1, null);
                if (count < seatingBursts) {
                    seatingBursts = count;
                    System.arraycopy(row, 0, bestRow, 0, MOST_GUESTS);
                }
                isRow = takeNextRow(now.rules.guests);
            }
        }

        /** The SEATS that are taken now, from the least on: the first row of all. */
        private void takeFirstRow(Ring now) {
            int many = 0;
            for (int s = 0; s < MOST_SEATS; s++) {
                if (now.guestIn[s] != NONE && many < MOST_GUESTS) {
                    row[many] = s;
                    many++;
                }
            }
        }

        /** The row of these SEATS that comes next behind this one, if there is one. */
        private boolean takeNextRow(int many) {
            int turn = Math.min(many, MOST_GUESTS) - 2;
            while (turn >= 0 && row[turn] > row[turn + 1]) {
                turn--;
            }
            if (turn < 0) {
                return false;
            }
            int with = Math.min(many, MOST_GUESTS) - 1;
            while (with > turn && row[with] < row[turn]) {
                with--;
            }
            exchange(turn, with);
            int low = turn + 1;
            int high = Math.min(many, MOST_GUESTS) - 1;
            while (low < high) {
                exchange(low, high);
                low++;
                high--;
            }
            return true;
        }

        private void exchange(int a, int b) {
            int seat = row[a];
            row[a] = row[b];
            row[b] = seat;
        }
    }
}
