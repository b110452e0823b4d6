import java.util.Arrays;

/**
 * A rider who forgets: crossroads that look alike to him, and what rules by looks are worth.
 * The document's words stand in capitals in the comments here.
 */
public final class ForgetfulRider {
    public static final int NONE = -1;
    public static final long NOTHING = -1000000000000000000L;

    private static final int TAPE_ROOM = 400;
    private static final int PLACES = 16;
    private static final int LOOKS = 6;
    private static final int ROADS = 3;
    private static final int STEPS = 11;
    private static final int IMAGES = 2;

    private static final int FORK = 0;
    private static final int TURN = 1;
    private static final int INN = 2;
    private static final int END = 3;

    private static final int START = 0;
    private static final int DAY = 1;
    private static final int LATE = 2;
    private static final int LOST = 3;
    private static final int[] LEAST_TERM = {0, 1, -999, -999};
    private static final int[] MOST_TERM = {15, 10, 999, 999};

    private static final int BAD_NUMBER = -1;
    private static final int NOT_THERE = -2;
    private static final int NOT_SO = -3;
    private static final int BAD_TEXT = -6;

    /** One whole in ten-thousandths of millionths: ten STEPS of TENTHS divide it without a rest. */
    private static final long UNIT = 10000000000L;
    private static final long MOST_DIE_RULES = 5000;
    private static final int MOST_DIE_LOOKS = 3;
    private static final int MOST_POCKET_LOOKS = 3;
    private static final int MOST_SIGNED = 6;
    private static final int SIGN_LOOK = 5;
    /** Above all WORTH, either way, and far enough from the edges of long to be counted on from. */
    private static final long FAR = 1000000000000000L;

    private final byte[] tape = new byte[TAPE_ROOM];
    private int tapeLength = 0;
    private int faultAt = NONE;
    private final Land draft = new Land();
    private final Reader reader = new Reader(tape, draft);
    private final Book book = new Book();
    private final Book[] kept = {new Book(), new Book()};
    private final boolean[] isKept = new boolean[IMAGES];
    private final Teller teller = new Teller();
    private final Chart chart = new Chart(book, teller);
    private final Seeker seeker = new Seeker(chart);
    private final Pebble pebble = new Pebble(chart);
    private final Flow flow = new Flow(chart);
    private final Trip trip = new Trip(book, teller);
    private final int[] refusals = new int[4];
    private int latest = 0;

    public ForgetfulRider() {
    }

    // ---- the TAPE and the COUNTRY

    public int feed(int a, int b, int c, int d, int e) {
        if (tapeLength + 20 > TAPE_ROOM) {
            return NONE;
        }
        putFour(a);
        putFour(b);
        putFour(c);
        putFour(d);
        putFour(e);
        return tapeLength;
    }

    private void putFour(int four) {
        for (int shift = 24; shift >= 0 && tapeLength < TAPE_ROOM; shift -= 8) {
            tape[tapeLength] = (byte) (four >> shift);
            tapeLength++;
        }
    }

    public int end(int n) {
        if (n < 0 || n > tapeLength) {
            return NONE;
        }
        tapeLength = n;
        return n;
    }

    public int country() {
        int length = tapeLength;
        tapeLength = 0;
        faultAt = reader.read(length);
        if (faultAt != NONE) {
            return refuse(BAD_TEXT);
        }
        book.land.copyOf(draft);
        return grant(book.land.size);
    }

    public int fault() {
        return faultAt;
    }

    public int terms(int what, int value) {
        if (what < 0 || what > LOST || value < LEAST_TERM[what] || value > MOST_TERM[what]) {
            return refuse(BAD_NUMBER);
        }
        int was = book.term[what];
        book.term[what] = value;
        return grant(was);
    }

    public int of(int place, int what) {
        if (!book.land.has(place)) {
            return NONE;
        }
        return book.land.told(place, what);
    }

    public long pays(int place, int step) {
        if (!book.land.isKind(place, END) || step < 0 || step >= STEPS) {
            return NOTHING;
        }
        return teller.tell(book.land, place, step, book.term[DAY]);
    }

    public int paint(int place, int look) {
        if (!isLook(look)) {
            return refuse(BAD_NUMBER);
        }
        if (!book.land.has(place)) {
            return refuse(NOT_THERE);
        }
        if (!book.land.isKind(place, FORK)) {
            return refuse(NOT_SO);
        }
        int was = book.land.look[place];
        book.land.look[place] = look;
        return grant(was);
    }

    public int used() {
        return book.land.usedLooks();
    }

    // ---- the RULE and what it is worth

    public int rule(int look, int zero, int one) {
        if (!isLook(look) || zero < 0 || zero > 10 || one < 0 || one > 10 - zero) {
            return refuse(BAD_NUMBER);
        }
        book.tenth[look * ROADS] = zero;
        book.tenth[look * ROADS + 1] = one;
        book.tenth[look * ROADS + 2] = 10 - zero - one;
        return grant(0);
    }

    public int tenths(int look, int road) {
        if (!isLook(look) || road < 0 || road >= ROADS) {
            return NONE;
        }
        return book.tenth[look * ROADS + road];
    }

    public long worth() {
        if (noPlaces()) {
            return NOTHING;
        }
        chart.lay(false);
        return chart.weigh();
    }

    public long from(int place, int step) {
        if (!book.land.has(place) || step < 0 || step > book.term[DAY]) {
            return NOTHING;
        }
        chart.lay(true);
        chart.weigh();
        return chart.table[step * PLACES + place];
    }

    public long plain(int what) {
        if (what < 0 || what > 2 || noPlaces()) {
            return NOTHING;
        }
        return seeker.tellBest(seeker.seekPlain(), what);
    }

    public int road(int look) {
        if (!isLook(look) || noPlaces()) {
            return NONE;
        }
        seeker.seekPlain();
        return seeker.firstRoad(look);
    }

    public int follow() {
        if (noPlaces()) {
            return refuse(NOT_SO);
        }
        seeker.seekPlain();
        seeker.giveFirst(book.tenth);
        return grant(0);
    }

    public long die(int looks, int what) {
        if (!isLooks(looks) || what < 0 || what > 2 || noPlaces()) {
            return NOTHING;
        }
        long rules = seeker.seekDie(looks);
        return rules == NONE ? NOTHING : seeker.tellBest(rules, what);
    }

    public int cast(int looks) {
        if (!isLooks(looks)) {
            return refuse(BAD_NUMBER);
        }
        if (noPlaces() || seeker.seekDie(looks) == NONE) {
            return refuse(NOT_SO);
        }
        seeker.giveFirst(book.tenth);
        return grant(0);
    }

    public long power(int look, int k) {
        if (!isLook(look) || k < 0 || k >= STEPS || noPlaces()) {
            return NOTHING;
        }
        chart.lay(false);
        return flow.factor(look, k);
    }

    // ---- POCKET, KNOWING, SIGNS

    public long pocket() {
        if (noPlaces() || Integer.bitCount(book.land.usedLooks()) > MOST_POCKET_LOOKS) {
            return NOTHING;
        }
        chart.lay(false);
        return pebble.seek();
    }

    public long knowing() {
        if (noPlaces()) {
            return NOTHING;
        }
        chart.lay(false);
        chart.freeAll();
        return chart.weigh();
    }

    public int knows(int place, int step) {
        if (!book.land.isKind(place, FORK) || step < 0 || step >= book.term[DAY]) {
            return NONE;
        }
        chart.lay(true);
        chart.freeAll();
        chart.weigh();
        return chart.bestRoad(place, step);
    }

    public int signs(int look, long least, int what) {
        if (what < 0 || what > 1 || !canSign(look)) {
            return NONE;
        }
        int places = seeker.fewestSigns(look, Math.max(-FAR, Math.min(FAR, least)));
        return places == NONE || what == 1 ? places : Integer.bitCount(places);
    }

    public long signed(int look) {
        if (!canSign(look)) {
            return NOTHING;
        }
        return seeker.bestSigned(look);
    }

    private boolean canSign(int look) {
        if (look < 0 || look >= SIGN_LOOK) {
            return false;
        }
        int forks = book.land.forksOf(look);
        return forks > 0 && forks <= MOST_SIGNED && book.land.forksOf(SIGN_LOOK) == 0;
    }

    // ---- VISITS, BELIEF, BETS

    public long visits(int place) {
        if (!book.land.has(place)) {
            return NOTHING;
        }
        chart.lay(false);
        flow.countVisits();
        return flow.seen[place];
    }

    public long ends(int place) {
        boolean other = place == PLACES || place == PLACES + 1;
        if (noPlaces() || !other && !book.land.isKind(place, END)) {
            return NOTHING;
        }
        chart.lay(false);
        flow.countVisits();
        if (other) {
            return place == PLACES ? flow.late : flow.lost;
        }
        return flow.seen[place];
    }

    public int belief(int place, int school) {
        if (!book.land.isKind(place, FORK) || school < 0 || school > 1) {
            return NONE;
        }
        chart.lay(false);
        if (school == 1) {
            return flow.secondBelief(place);
        }
        flow.countVisits();
        return Flow.millionths(flow.seen[place], flow.seenAlike(place));
    }

    public long bet(int place, int price) {
        if (!book.land.isKind(place, FORK) || price < 0 || price > 100) {
            return NOTHING;
        }
        chart.lay(false);
        flow.countVisits();
        return 100 * flow.seen[place] - price * flow.seenAlike(place);
    }

    public int price(int place) {
        if (!book.land.isKind(place, FORK)) {
            return NONE;
        }
        chart.lay(false);
        flow.countVisits();
        long alike = flow.seenAlike(place);
        return alike == 0 ? 100 : (int) (100 * flow.seen[place] / alike);
    }

    // ---- RIDES and IMAGES

    public int ride(int seed) {
        if (seed < 0 || seed > 1000000) {
            return refuse(BAD_NUMBER);
        }
        if (noPlaces()) {
            return refuse(NOT_SO);
        }
        trip.go(seed);
        return grant(trip.last);
    }

    public long rode(int step) {
        if (step < NONE || step > trip.last || trip.last == NONE) {
            return NOTHING;
        }
        return step == NONE ? trip.gained : trip.was[step];
    }

    public int image(int k) {
        if (k < 0 || k >= IMAGES) {
            return refuse(BAD_NUMBER);
        }
        kept[k].copyOf(book);
        isKept[k] = true;
        return grant(0);
    }

    public int back(int k) {
        if (k < 0 || k >= IMAGES) {
            return refuse(BAD_NUMBER);
        }
        if (!isKept[k]) {
            return refuse(NOT_THERE);
        }
        book.copyOf(kept[k]);
        return grant(0);
    }

    // ---- what is told of the object

    public int count(int what) {
        if (what >= 4 && what <= 7) {
            return refusals[what - 4];
        }
        if (what >= 8 && what <= 11) {
            return book.term[what - 8];
        }
        switch (what) {
            case 0:
                return book.land.size;
            case 1:
                return book.land.forks();
            case 2:
                return Integer.bitCount(book.land.usedLooks());
            case 3:
                return tapeLength;
            default:
                return -1000;
        }
    }

    public int status() {
        return latest;
    }

    private int refuse(int by) {
        latest = by;
        refusals[by == BAD_TEXT ? 3 : by == NOT_SO ? 2 : by == NOT_THERE ? 1 : 0]++;
        return by;
    }

    private int grant(int answer) {
        latest = 0;
        return answer;
    }

    private boolean noPlaces() {
        return book.land.size == 0;
    }

    private static boolean isLook(int look) {
        return look >= 0 && look < LOOKS;
    }

    private static boolean isLooks(int looks) {
        return looks >= 0 && looks < 1 << LOOKS;
    }

    /** The COUNTRY: its PLACES, and the sums and tests of its ENDS as code for the Teller. */
    private static final class Land {
        int size = 0;
        final int[] kind = new int[PLACES];
        final int[] look = new int[PLACES];
        final int[] toll = new int[PLACES];
        final int[] roadCount = new int[PLACES];
        final int[] roadTo = new int[PLACES * ROADS];
        final int[] turnTenth = new int[PLACES * ROADS];
        final int[] sumFrom = new int[PLACES];
        final int[] sumTo = new int[PLACES];
        final int[] testTo = new int[PLACES];
        final int[] code = new int[TAPE_ROOM];

        void copyOf(Land other) {
            size = other.size;
            copyRow(other.kind, kind);
            copyRow(other.look, look);
            copyRow(other.toll, toll);
            copyRow(other.roadCount, roadCount);
            copyRow(other.roadTo, roadTo);
            copyRow(other.turnTenth, turnTenth);
            copyRow(other.sumFrom, sumFrom);
            copyRow(other.sumTo, sumTo);
            copyRow(other.testTo, testTo);
            copyRow(other.code, code);
        }

        static void copyRow(int[] source, int[] target) {
            System.arraycopy(source, 0, target, 0, Math.min(source.length, target.length));
        }

        boolean has(int place) {
            return place >= 0 && place < size;
        }

        boolean isKind(int place, int wanted) {
            return has(place) && kind[place] == wanted;
        }

        int told(int place, int what) {
            if (what == 0) {
                return kind[place];
            }
            if (what == 1) {
                return kind[place] == FORK ? look[place] : NONE;
            }
            if (what == 2) {
                return kind[place] == INN ? toll[place] : NONE;
            }
            if (what == 3) {
                return roadCount[place];
            }
            if (what >= 4 && what - 4 < roadCount[place]) {
                return roadTo[place * ROADS + what - 4];
            }
            if (kind[place] == TURN && what >= 7 && what - 7 < roadCount[place]) {
                return turnTenth[place * ROADS + what - 7];
            }
            return NONE;
        }

        int forks() {
            int found = 0;
            for (int place = 0; place < size; place++) {
                if (kind[place] == FORK) {
                    found++;
                }
            }
            return found;
        }

        int forksOf(int wanted) {
            int found = 0;
            for (int place = 0; place < size; place++) {
                if (kind[place] == FORK && look[place] == wanted) {
                    found++;
                }
            }
            return found;
        }

        int usedLooks() {
            int looks = 0;
            for (int place = 0; place < size; place++) {
                if (kind[place] == FORK) {
                    looks |= 1 << look[place];
                }
            }
            return looks;
        }
    }

    /** All that an IMAGE keeps. */
    private static final class Book {
        final Land land = new Land();
        final int[] term = {0, 10, 0, 0};
        final int[] tenth = {10, 0, 0, 10, 0, 0, 10, 0, 0, 10, 0, 0, 10, 0, 0, 10, 0, 0};

        void copyOf(Book other) {
            land.copyOf(other.land);
            Land.copyRow(other.term, term);
            Land.copyRow(other.tenth, tenth);
        }
    }

    /** Reads a TEXT into a Land; stands always at one TOKEN, the first that was not taken yet. */
    private static final class Reader {
        private static final int WORD = 0;
        private static final int NUMBER = 1;
        private static final int SIGN = 2;
        private static final int FINISH = 3;
        private static final int MOST_PARTS = 50;
        private static final int MOST_BRACKETS = 8;
        private static final int MOST_NUMBER = 1000;
        /** Above every number that a TEXT may have. */
        private static final int TOO_MUCH = 9999;

        private final byte[] text;
        private final Land land;
        private int length = 0;
        private int tokenFrom = 0;
        private int tokenTo = 0;
        private int kind = FINISH;
        private int value = 0;
        private int place = 0;
        private int codeSize = 0;
        private int parts = 0;

        Reader(byte[] theText, Land theLand) {
            text = theText;
            land = theLand;
        }

        /** The FAULT, or NONE if so many bytes of the text are a COUNTRY: it is in the land then. */
        int read(int bytes) {
            length = Math.max(0, Math.min(bytes, text.length));
            land.size = 0;
            codeSize = 0;
            parts = 0;
            tokenTo = 0;
            advance();
            boolean more = true;
            for (place = 0; place < PLACES && more; place++) {
                if (!readPlace()) {
                    return tokenFrom;
                }
                land.size = place + 1;
                if (kind == FINISH) {
                    return NONE;
                }
                more = takeSign(';');
            }
            return tokenFrom;
        }

        private boolean readPlace() {
            land.look[place] = 0;
            land.toll[place] = 0;
            land.roadCount[place] = 0;
            land.sumFrom[place] = codeSize;
            land.sumTo[place] = codeSize;
            land.testTo[place] = codeSize;
            if (takeWord("fork")) {
                return readFork();
            }
            if (takeWord("turn")) {
                return readTurn();
            }
            if (takeWord("inn")) {
                return readInn();
            }
            return takeWord("end") && readEnd();
        }

        private boolean readFork() {
            land.kind[place] = FORK;
            land.look[place] = value;
            if (!takeNumber(0, LOOKS - 1) || !takeWord("to")) {
                return false;
            }
            boolean more = true;
            for (int road = 0; road < ROADS && more; road++) {
                if (!readRoad(road)) {
                    return false;
                }
                more = road < ROADS - 1 && takeSign(',');
            }
            return true;
        }

        private boolean readTurn() {
            land.kind[place] = TURN;
            int rest = 10;
            boolean more = true;
            for (int road = 0; road < ROADS && more; road++) {
                if (!readRoad(road) || !takeWord("by")) {
                    return false;
                }
                int share = value;
                if (!takeNumber(1, rest)) {
                    return false;
                }
                rest -= share;
                land.turnTenth[place * ROADS + road] = share;
                more = road < ROADS - 1 && takeSign(',');
            }
            return rest == 0;
        }

        private boolean readInn() {
            land.kind[place] = INN;
            land.toll[place] = value;
            return takeNumber(0, 99) && takeWord("to") && readRoad(0);
        }

        private boolean readRoad(int road) {
            land.roadTo[place * ROADS + road] = value;
            land.roadCount[place] = road + 1;
            return takeNumber(0, PLACES - 1);
        }

        private boolean readEnd() {
            land.kind[place] = END;
            if (!readSum(0)) {
                return false;
            }
            land.sumTo[place] = codeSize;
            if (takeWord("if") && !readTest(0)) {
                return false;
            }
            land.testTo[place] = codeSize;
            return true;
        }

        private boolean readTest(int depth) {
            if (!readBoth(depth)) {
                return false;
            }
            for (int i = 0; i < TAPE_ROOM && takeWord("or"); i++) {
                int skip = codeSize;
                put(Teller.SKIP_IF_SO, 0);
                if (!readBoth(depth)) {
                    return false;
                }
                aim(skip);
            }
            return true;
        }

        private boolean readBoth(int depth) {
            if (!readPlain(depth)) {
                return false;
            }
            for (int i = 0; i < TAPE_ROOM && takeWord("and"); i++) {
                int skip = codeSize;
                put(Teller.SKIP_IF_NOT, 0);
                if (!readPlain(depth)) {
                    return false;
                }
                aim(skip);
            }
            return true;
        }

        /** The words "not" are counted, not gone down into: a TEXT can have a hundred of them. */
        private boolean readPlain(int depth) {
            boolean round = false;
            for (int i = 0; i < TAPE_ROOM && takeWord("not"); i++) {
                round = !round;
            }
            boolean fine = isSign('(') ? readInBrackets(depth) : readComparison(depth);
            if (fine && round) {
                put(Teller.TURN_ROUND, 0);
            }
            return fine;
        }

        private boolean readInBrackets(int depth) {
            return depth < MOST_BRACKETS && takeSign('(') && readTest(depth + 1) && takeSign(')');
        }

        private boolean readComparison(int depth) {
            if (!readSum(depth)) {
                return false;
            }
            int how = isSign('<') ? Teller.BELOW : isSign('>') ? Teller.ABOVE : Teller.EVEN;
            if (how == Teller.EVEN && !isSign('=')) {
                return false;
            }
            advance();
            if (!readSum(depth)) {
                return false;
            }
            put(how, 0);
            return true;
        }

        private boolean readSum(int depth) {
            if (!readTerm(depth)) {
                return false;
            }
            for (int i = 0; i < TAPE_ROOM && (isSign('+') || isSign('-')); i++) {
                int how = isSign('+') ? Teller.ADD : Teller.TAKE;
                advance();
                if (!readTerm(depth)) {
                    return false;
                }
                put(how, 0);
            }
            return true;
        }

        private boolean readTerm(int depth) {
            if (!readPart(depth)) {
                return false;
            }
            for (int i = 0; i < TAPE_ROOM && (isSign('*') || isSign('/')); i++) {
                int how = isSign('*') ? Teller.TIMES : Teller.DIVIDE;
                advance();
                if (!readPart(depth)) {
                    return false;
                }
                put(how, 0);
            }
            return true;
        }

        private boolean readPart(int depth) {
            if (isSign('[')) {
                return depth < MOST_BRACKETS && takeSign('[') && readSum(depth + 1) && takeSign(']');
            }
            int what = kind == NUMBER ? Teller.SAY_NUMBER : isWord("step") ? Teller.SAY_STEP
                    : isWord("place") ? Teller.SAY_PLACE : isWord("day") ? Teller.SAY_DAY : NONE;
            if (what == NONE || value > MOST_NUMBER || parts >= MOST_PARTS) {
                return false;
            }
            parts++;
            put(what, value);
            advance();
            return true;
        }

        private void put(int what, int told) {
            if (codeSize < land.code.length) {
                land.code[codeSize] = what | told << 4;
                codeSize++;
            }
        }

        /** A skip goes to behind all that was put since. */
        private void aim(int skip) {
            if (skip < land.code.length) {
                land.code[skip] = land.code[skip] & 15 | codeSize << 4;
            }
        }

        private boolean isSign(char sign) {
            return kind == SIGN && value == sign;
        }

        private boolean takeSign(char sign) {
            boolean is = isSign(sign);
            if (is) {
                advance();
            }
            return is;
        }

        private boolean isWord(String word) {
            if (kind != WORD || tokenTo - tokenFrom != word.length()) {
                return false;
            }
            for (int i = 0; i < word.length(); i++) {
                if (text[tokenFrom + i] != word.charAt(i)) {
                    return false;
                }
            }
            return true;
        }

        private boolean takeWord(String word) {
            boolean is = isWord(word);
            if (is) {
                advance();
            }
            return is;
        }

        private boolean takeNumber(int least, int most) {
            boolean is = kind == NUMBER && value >= least && value <= most;
            if (is) {
                advance();
            }
            return is;
        }

        private void advance() {
            int at = tokenTo;
            while (at < length && text[at] == ' ') {
                at++;
            }
            tokenFrom = at;
            value = 0;
            if (at >= length) {
                kind = FINISH;
            } else if (isLetter(text[at])) {
                kind = WORD;
                while (at < length && isLetter(text[at])) {
                    at++;
                }
            } else if (isDigit(text[at])) {
                kind = NUMBER;
                while (at < length && isDigit(text[at])) {
                    value = Math.min(TOO_MUCH, value * 10 + text[at] - '0');
                    at++;
                }
            } else {
                kind = SIGN;
                value = text[at] & 255;
                at++;
            }
            tokenTo = at;
        }

        private static boolean isLetter(byte b) {
            return b >= 'a' && b <= 'z';
        }

        private static boolean isDigit(byte b) {
            return b >= '0' && b <= '9';
        }
    }

    /**
     * Tells what an END is worth, by its code: of each number of it the low four bits tell what is
     * done, those above them what it is done with.
     */
    private static final class Teller {
        static final int SAY_NUMBER = 0;
        static final int SAY_STEP = 1;
        static final int SAY_PLACE = 2;
        static final int SAY_DAY = 3;
        static final int ADD = 4;
        static final int TAKE = 5;
        static final int TIMES = 6;
        static final int DIVIDE = 7;
        static final int BELOW = 8;
        static final int ABOVE = 9;
        static final int EVEN = 10;
        static final int TURN_ROUND = 11;
        static final int SKIP_IF_SO = 12;
        static final int SKIP_IF_NOT = 13;

        private static final long BROKEN = NOTHING;
        private static final long MOST = 1000000000L;

        /** Nine levels of brackets, two numbers waiting at each, and one ahead of a comparison. */
        private final long[] stack = new long[32];
        private int place = 0;
        private int step = 0;
        private int day = 0;

        int tell(Land land, int atPlace, int atStep, int ofDay) {
            place = atPlace;
            step = atStep;
            day = ofDay;
            int sumTo = land.sumTo[place];
            int testTo = land.testTo[place];
            if (testTo > sumTo && run(land.code, sumTo, testTo) != 1) {
                return 0;
            }
            long sum = run(land.code, land.sumFrom[place], sumTo);
            return sum == BROKEN ? 0 : (int) Math.max(-999, Math.min(999, sum));
        }

        /** Nothing mends what is BROKEN, so that the first such ends it all. */
        private long run(int[] code, int from, int to) {
            int height = 0;
            for (int at = from; at < to && at < code.length; at++) {
                int what = code[at] & 15;
                int told = code[at] >> 4;
                if (height >= stack.length || height < needed(what)) {
                    return BROKEN;
                }
                if (what < ADD) {
                    stack[height] = said(what, told);
                    height++;
                } else if (what < TURN_ROUND) {
                    height--;
                    long joined = join(what, stack[height - 1], stack[height]);
                    if (joined == BROKEN) {
                        return BROKEN;
                    }
                    stack[height - 1] = joined;
                } else if (what == TURN_ROUND) {
                    stack[height - 1] = 1 - stack[height - 1];
                } else if (stack[height - 1] == (what == SKIP_IF_SO ? 1 : 0)) {
                    at = Math.max(at, told - 1);
                } else {
                    height--;
                }
            }
            return height > 0 ? stack[0] : BROKEN;
        }

        private static int needed(int what) {
            return what < ADD ? 0 : what < TURN_ROUND ? 2 : 1;
        }

        private long said(int what, int told) {
            return what == SAY_STEP ? step : what == SAY_PLACE ? place : what == SAY_DAY ? day : told;
        }

        private static long join(int what, long left, long right) {
            switch (what) {
                case BELOW:
                    return left < right ? 1 : 0;
                case ABOVE:
                    return left > right ? 1 : 0;
                case EVEN:
                    return left == right ? 1 : 0;
                case ADD:
                    return checked(left + right);
                case TAKE:
                    return checked(left - right);
                case TIMES:
                    return checked(left * right);
                default:
                    return right == 0 ? BROKEN : left / right;
            }
        }

        private static long checked(long sum) {
            return sum > MOST || sum < -MOST ? BROKEN : sum;
        }
    }

    /**
     * What it is worth to be at each PLACE at each STEP, found from the DAY's end backwards.
     * Its looks and its rule are its own, so that others may be tried than those that stand.
     */
    private static final class Chart {
        final Book book;
        final Land land;
        private final Teller teller;
        final int[] look = new int[PLACES];
        final int[] mix = new int[LOOKS * ROADS];
        /** LOOKS (bits) at whose FORKS he takes the ROAD that is best there and then. */
        int free = 0;
        final long[] table = new long[STEPS * PLACES];
        /** States (STEP times 16 and PLACE) from which he goes on, the latest STEP ahead. */
        final int[] order = new int[STEPS * PLACES];
        int moves = 0;
        /** TENTHS of the ROADS of each PLACE. */
        final int[] tenth = new int[PLACES * ROADS];
        private final int[] reached = new int[STEPS];

        Chart(Book theBook, Teller theTeller) {
            book = theBook;
            land = theBook.land;
            teller = theTeller;
        }

        /** All that no RULE changes; everywhere: at states too to which no RIDE comes. */
        void lay(boolean everywhere) {
            Land.copyRow(land.look, look);
            Land.copyRow(book.tenth, mix);
            free = 0;
            moves = 0;
            for (int i = 0; i < tenth.length; i++) {
                tenth[i] = land.kind[i / ROADS] == TURN ? land.turnTenth[i] : 10;
            }
            reach(everywhere);
            for (int step = book.term[DAY]; step >= 0; step--) {
                layStep(step);
            }
        }

        private void reach(boolean everywhere) {
            int all = (1 << PLACES) - 1;
            Arrays.fill(reached, everywhere ? all : 0);
            reached[0] |= 1 << book.term[START];
            for (int step = 0; step < book.term[DAY] && !everywhere; step++) {
                for (int place = 0; place < land.size; place++) {
                    if ((reached[step] >> place & 1) == 1) {
                        reached[step + 1] |= roadsFrom(place);
                    }
                }
            }
        }

        /** PLACES (bits). */
        int roadsFrom(int place) {
            int places = 0;
            for (int road = 0; road < land.roadCount[place]; road++) {
                places |= 1 << land.roadTo[place * ROADS + road];
            }
            return places;
        }

        private void layStep(int step) {
            int day = book.term[DAY];
            for (int place = 0; place < PLACES; place++) {
                int state = step * PLACES + place;
                if ((reached[step] >> place & 1) == 0) {
                    table[state] = 0;
                } else if (place >= land.size) {
                    table[state] = book.term[LOST] * UNIT;
                } else if (land.kind[place] == END) {
                    table[state] = teller.tell(land, place, step, day) * UNIT;
                } else if (step == day) {
                    table[state] = book.term[LATE] * UNIT;
                } else {
                    order[moves] = state;
                    moves++;
                }
            }
        }

        void freeAll() {
            free = (1 << LOOKS) - 1;
        }

        /** What a RIDE from START is worth. */
        long weigh() {
            shareAtForks();
            for (int i = 0; i < moves; i++) {
                int state = order[i];
                int place = state % PLACES;
                int row = state - place + PLACES;
                if (land.kind[place] == FORK && (free >> look[place] & 1) == 1) {
                    table[state] = most(place, row);
                } else {
                    table[state] = mean(place, row);
                }
            }
            return table[book.term[START]];
        }

        private long most(int place, int row) {
            long best = NOTHING;
            for (int road = 0; road < land.roadCount[place]; road++) {
                best = Math.max(best, table[row + land.roadTo[place * ROADS + road]]);
            }
            return best;
        }

        private long mean(int place, int row) {
            long sum = 0;
            int to = place * ROADS + land.roadCount[place];
            for (int road = place * ROADS; road < to; road++) {
                if (tenth[road] > 0) {
                    sum += tenth[road] * table[row + land.roadTo[road]];
                }
            }
            return sum / 10 - land.toll[place] * UNIT;
        }

        /** The last ROAD of a FORK has those of ROADS that are not there, too: all that is left. */
        void shareAtForks() {
            for (int place = 0; place < land.size; place++) {
                if (land.kind[place] == FORK) {
                    int last = land.roadCount[place] - 1;
                    int left = 10;
                    for (int road = 0; road < last; road++) {
                        tenth[place * ROADS + road] = mix[look[place] * ROADS + road];
                        left -= tenth[place * ROADS + road];
                    }
                    tenth[place * ROADS + last] = left;
                }
            }
        }

        int bestRoad(int place, int step) {
            int row = (step + 1) * PLACES;
            int best = 0;
            for (int road = 1; road < land.roadCount[place]; road++) {
                if (table[row + land.roadTo[place * ROADS + road]]
                        > table[row + land.roadTo[place * ROADS + best]]) {
                    best = road;
                }
            }
            return best;
        }

        /** LOOKS (bits) at which a RIDE may have to choose. */
        int looksAhead() {
            int looks = 0;
            for (int i = 0; i < moves; i++) {
                int place = order[i] % PLACES;
                if (land.kind[place] == FORK) {
                    looks |= 1 << look[place];
                }
            }
            return looks;
        }

        /** Of each LOOK, how many ROADS the FORK with the most of them has; 0 if it is not USED. */
        void countRoads(int[] roads) {
            Arrays.fill(roads, 0);
            for (int place = 0; place < land.size; place++) {
                if (land.kind[place] == FORK && look[place] < roads.length) {
                    roads[look[place]] = Math.max(roads[look[place]], land.roadCount[place]);
                }
            }
        }

        boolean goesOn(int place, int step) {
            return place < land.size && land.kind[place] != END && step < book.term[DAY];
        }
    }

    /**
     * Seeks the BEST of RULES, LOOK by LOOK in their order. LOOKS that have no ROAD yet are left
     * free in the chart: no RULE that goes on from there can be worth more than that.
     */
    private static final class Seeker {
        private final Chart chart;
        private final int[] roads = new int[LOOKS];
        private final int[] first = new int[LOOKS * ROADS];
        private final int[] forks = new int[PLACES];
        private int forkCount = 0;
        private int keys = 0;
        private boolean dice = false;
        private boolean counting = true;
        private long best = 0;
        private long having = 0;

        Seeker(Chart theChart) {
            chart = theChart;
        }

        /** How many PLAIN RULES there are; the BEST is known then. */
        long seekPlain() {
            chart.lay(false);
            startPlain(true);
            seek(usedLooks(), NOTHING);
            return rules(usedLooks());
        }

        private void startPlain(boolean counted) {
            dice = false;
            counting = counted;
            chart.countRoads(roads);
            for (int look = 0; look < LOOKS; look++) {
                choose(look, 0);
            }
        }

        /** How many RULES with a DIE there are, the BEST is known then; NONE if none is sought. */
        long seekDie(int wanted) {
            chart.lay(false);
            dice = true;
            counting = true;
            chart.countRoads(roads);
            int looks = wanted & usedLooks();
            if (Integer.bitCount(looks) > MOST_DIE_LOOKS || rules(looks) > MOST_DIE_RULES) {
                return NONE;
            }
            seek(looks, NOTHING);
            return rules(looks);
        }

        long tellBest(long rules, int what) {
            return what == 0 ? best : what == 1 ? having : rules;
        }

        int firstRoad(int look) {
            int road = 0;
            while (road < ROADS - 1 && first[look * ROADS + road] == 0) {
                road++;
            }
            return road;
        }

        void giveFirst(int[] tenth) {
            Land.copyRow(first, tenth);
        }

        private int usedLooks() {
            int looks = 0;
            for (int look = 0; look < LOOKS; look++) {
                if (roads[look] > 0) {
                    looks |= 1 << look;
                }
            }
            return looks;
        }

        private long rules(int looks) {
            long product = 1;
            for (int look = 0; look < LOOKS; look++) {
                if ((looks >> look & 1) == 1) {
                    product *= choices(look);
                }
            }
            return product;
        }

        private int choices(int look) {
            if (!dice) {
                return roads[look];
            }
            return roads[look] == 1 ? 1 : roads[look] == 2 ? 11 : 66;
        }

        /** The choices of a LOOK in the order in which the first is sought. */
        private void choose(int look, int choice) {
            int zero = choice == 0 ? 10 : 0;
            int one = choice == 1 ? 10 : 0;
            if (dice && roads[look] == 2) {
                zero = choice;
                one = 10 - choice;
            } else if (dice && roads[look] == 3) {
                zero = 0;
                one = choice;
                while (zero < 10 && one > 10 - zero) {
                    one -= 11 - zero;
                    zero++;
                }
            }
            chart.mix[look * ROADS] = zero;
            chart.mix[look * ROADS + 1] = one;
            chart.mix[look * ROADS + 2] = 10 - zero - one;
        }

        /** LOOKS that no RIDE sees change nothing: they have their first choice, and are counted. */
        private void seek(int looks, long floor) {
            best = floor;
            having = 0;
            keys = looks & chart.looksAhead();
            for (int look = 0; look < LOOKS; look++) {
                if ((looks >> look & 1) == 1) {
                    choose(look, 0);
                }
            }
            chart.free = keys;
            long most = chart.weigh();
            if (mayBeBest(most)) {
                tryLook(0, most);
            }
            chart.free = 0;
            having *= rules(looks & ~keys);
        }

        private void tryLook(int look, long most) {
            if (look >= LOOKS) {
                takeRule(most);
            } else if ((keys >> look & 1) == 0) {
                tryLook(look + 1, most);
            } else {
                chart.free &= ~(1 << look);
                int choices = choices(look);
                for (int choice = 0; choice < choices; choice++) {
                    choose(look, choice);
                    long then = chart.weigh();
                    if (mayBeBest(then)) {
                        tryLook(look + 1, then);
                    }
                }
                chart.free |= 1 << look;
            }
        }

        private boolean mayBeBest(long most) {
            return counting ? most >= best : most > best;
        }

        private void takeRule(long value) {
            if (value > best) {
                best = value;
                having = 0;
                Land.copyRow(chart.mix, first);
            }
            having++;
        }

        /** The PLACES (bits) of the fewest SIGNS that are worth so much, the lowest of these; NONE. */
        int fewestSigns(int look, long least) {
            startSigns(look);
            for (int many = 0; many <= forkCount; many++) {
                for (int signs = 0; signs < 1 << forkCount; signs++) {
                    if (Integer.bitCount(signs) == many && bestWithSigns(signs, look, least - 1) >= least) {
                        return placesOf(signs);
                    }
                }
            }
            return NONE;
        }

        long bestSigned(int look) {
            startSigns(look);
            long most = NOTHING;
            for (int signs = 0; signs < 1 << forkCount; signs++) {
                most = bestWithSigns(signs, look, most);
            }
            return most;
        }

        private void startSigns(int look) {
            chart.lay(false);
            forkCount = 0;
            for (int place = 0; place < chart.land.size; place++) {
                if (chart.land.kind[place] == FORK && chart.land.look[place] == look) {
                    forks[forkCount] = place;
                    forkCount++;
                }
            }
            forkCount = Math.min(forkCount, MOST_SIGNED);
        }

        private long bestWithSigns(int signs, int look, long floor) {
            for (int i = 0; i < forkCount; i++) {
                chart.look[forks[i]] = (signs >> i & 1) == 1 ? SIGN_LOOK : look;
            }
            startPlain(false);
            seek(usedLooks(), floor);
            return best;
        }

        private int placesOf(int signs) {
            int places = 0;
            for (int i = 0; i < forkCount; i++) {
                if ((signs >> i & 1) == 1) {
                    places |= 1 << forks[i];
                }
            }
            return places;
        }
    }

    /**
     * Seeks the BEST with a POCKET. A KEY is a LOOK with a POCKET (LOOK times 2 and 1 for a pebble);
     * KEYS are chosen for as he comes to them, and are free till then, as the Seeker's LOOKS are.
     */
    private static final class Pebble {
        private static final int FREE = -1;
        private static final int KEYS = LOOKS * 2;

        private final Chart chart;
        /** As the chart's, with the POCKET behind each state. */
        private final long[] table = new long[STEPS * PLACES * 2];
        /** Of each KEY: ROAD times 2 and the POCKET then. */
        private final int[] choice = new int[KEYS];
        private final int[] roads = new int[LOOKS];
        /** PLACES (bits) where he may be, by POCKET: at a STEP, and at the next one. */
        private final int[] here = new int[2];
        private final int[] then = new int[2];
        private long best = 0;

        Pebble(Chart theChart) {
            chart = theChart;
        }

        long seek() {
            for (int state = 0; state < STEPS * PLACES; state++) {
                table[state * 2] = chart.table[state];
                table[state * 2 + 1] = chart.table[state];
            }
            Arrays.fill(choice, FREE);
            chart.countRoads(roads);
            best = NOTHING;
            tryKey(0, weigh());
            return best;
        }

        private void tryKey(int depth, long most) {
            if (most <= best) {
                return;
            }
            int key = keyAhead();
            if (key == NONE || depth >= KEYS) {
                best = most;
                return;
            }
            int choices = roads[key / 2] * 2;
            for (int i = 0; i < choices; i++) {
                choice[key] = i;
                tryKey(depth + 1, weigh());
            }
            choice[key] = FREE;
        }

        /** The first free KEY that he comes to by what is chosen; NONE if he comes to none. */
        private int keyAhead() {
            here[0] = 1 << chart.book.term[START];
            here[1] = 0;
            for (int step = 0; step < chart.book.term[DAY]; step++) {
                then[0] = 0;
                then[1] = 0;
                for (int spot = 0; spot < chart.land.size * 2; spot++) {
                    int place = spot / 2;
                    int pocket = spot % 2;
                    if ((here[pocket] >> place & 1) == 0) {
                        continue;
                    }
                    if (chart.land.kind[place] != FORK) {
                        then[pocket] |= chart.roadsFrom(place);
                        continue;
                    }
                    int key = chart.look[place] * 2 + pocket;
                    if (choice[key] == FREE) {
                        return key;
                    }
                    then[choice[key] % 2] |= 1 << roadChosen(place, choice[key]);
                }
                here[0] = then[0];
                here[1] = then[1];
            }
            return NONE;
        }

        private int roadChosen(int place, int chosen) {
            int road = Math.min(chosen / 2, chart.land.roadCount[place] - 1);
            return chart.land.roadTo[place * ROADS + road];
        }

        private long weigh() {
            for (int i = 0; i < chart.moves; i++) {
                int state = chart.order[i];
                int place = state % PLACES;
                int row = state - place + PLACES;
                for (int pocket = 0; pocket < 2; pocket++) {
                    table[state * 2 + pocket] = chart.land.kind[place] == FORK
                            ? atFork(place, row, pocket) : mean(place, row, pocket);
                }
            }
            return table[chart.book.term[START] * 2];
        }

        private long atFork(int place, int row, int pocket) {
            int chosen = choice[chart.look[place] * 2 + pocket];
            if (chosen != FREE) {
                return table[(row + roadChosen(place, chosen)) * 2 + chosen % 2];
            }
            long most = NOTHING;
            for (int road = 0; road < chart.land.roadCount[place]; road++) {
                int state = (row + chart.land.roadTo[place * ROADS + road]) * 2;
                most = Math.max(most, Math.max(table[state], table[state + 1]));
            }
            return most;
        }

        private long mean(int place, int row, int pocket) {
            long sum = 0;
            for (int road = 0; road < chart.land.roadCount[place]; road++) {
                int state = (row + chart.land.roadTo[place * ROADS + road]) * 2 + pocket;
                sum += chart.tenth[place * ROADS + road] * table[state];
            }
            return sum / 10 - chart.land.toll[place] * UNIT;
        }
    }

    /**
     * Chances of where he is, STEP by STEP from START on, in ten-thousandths of millionths. Each
     * PLACE has a row of such numbers, as wide as the question needs it.
     */
    private static final class Flow {
        private static final int WIDEST = 24;
        /** N of VISITS of a LOOK in a RIDE: 0 .. 11; so far into a row stand the VISITS of the FORK. */
        private static final int HALF = 12;
        /** What 1 .. 11 all divide. */
        private static final long WHOLE = 27720;
        private static final int NO_LOOK = -1;

        private final Chart chart;
        private long[] now = new long[PLACES * WIDEST];
        private long[] next = new long[PLACES * WIDEST];
        private int width = 1;
        final long[] seen = new long[PLACES];
        long late = 0;
        long lost = 0;

        Flow(Chart theChart) {
            chart = theChart;
        }

        private void start(int wide) {
            width = wide;
            chart.shareAtForks();
            Arrays.fill(now, 0);
            now[chart.book.term[START] * width] = UNIT;
        }

        /** One STEP on; at FORKS of the open LOOK the chance of ROAD 0 is p, a number not known. */
        private void goOn(int step, int openLook) {
            Arrays.fill(next, 0);
            for (int place = 0; place < PLACES; place++) {
                if (!chart.goesOn(place, step)) {
                    continue;
                }
                boolean open = chart.land.kind[place] == FORK && chart.look[place] == openLook
                        && chart.land.roadCount[place] > 1;
                if (open) {
                    passOpen(place);
                } else {
                    passRow(place);
                }
            }
            long[] spare = now;
            now = next;
            next = spare;
        }

        private void passRow(int place) {
            for (int road = 0; road < chart.land.roadCount[place]; road++) {
                int share = chart.tenth[place * ROADS + road];
                int to = chart.land.roadTo[place * ROADS + road] * width;
                for (int i = 0; i < width; i++) {
                    next[to + i] += now[place * width + i] / 10 * share;
                }
            }
        }

        private void passOpen(int place) {
            int zero = chart.land.roadTo[place * ROADS] * width;
            int one = chart.land.roadTo[place * ROADS + 1] * width;
            for (int i = 0; i < width - 1; i++) {
                long chance = now[place * width + i];
                next[zero + i + 1] += chance;
                next[one + i] += chance;
                next[one + i + 1] -= chance;
            }
        }

        void countVisits() {
            Arrays.fill(seen, 0);
            late = 0;
            lost = 0;
            start(1);
            int day = chart.book.term[DAY];
            for (int step = 0; step <= day; step++) {
                for (int place = 0; place < PLACES; place++) {
                    seen[place] += now[place];
                    if (place >= chart.land.size) {
                        lost += now[place];
                    } else if (step == day && chart.land.kind[place] != END) {
                        late += now[place];
                    }
                }
                goOn(step, NO_LOOK);
            }
        }

        /** Mean VISITS of all FORKS with the LOOK of this one. */
        long seenAlike(int fork) {
            long sum = 0;
            for (int place = 0; place < chart.land.size; place++) {
                if (looksLike(place, fork)) {
                    sum += seen[place];
                }
            }
            return sum;
        }

        private boolean looksLike(int place, int fork) {
            return chart.land.isKind(place, FORK) && chart.look[place] == chart.look[fork];
        }

        /**
         * In the first half of a row the chances by N, in the second the mean VISITS of the FORK
         * in RIDES with that N, times their chance.
         */
        int secondBelief(int fork) {
            start(WIDEST);
            long chances = 0;
            long shares = 0;
            int day = chart.book.term[DAY];
            for (int step = 0; step <= day; step++) {
                for (int place = 0; place < PLACES; place++) {
                    if (looksLike(place, fork)) {
                        countOne(place, place == fork);
                    }
                    if (!chart.goesOn(place, step)) {
                        for (int n = 1; n < HALF; n++) {
                            chances += now[place * WIDEST + n];
                            shares += now[place * WIDEST + HALF + n] * (WHOLE / n);
                        }
                    }
                }
                goOn(step, NO_LOOK);
            }
            return millionths(shares, chances * WHOLE);
        }

        private void countOne(int place, boolean isFork) {
            int row = place * WIDEST;
            for (int n = HALF - 1; n > 0; n--) {
                now[row + n] = now[row + n - 1];
                now[row + HALF + n] = now[row + HALF + n - 1] + (isFork ? now[row + n] : 0);
            }
            now[row] = 0;
            now[row + HALF] = 0;
        }

        /** Digit by digit, as a part times a million may be beyond a long; NONE if all is 0. */
        static int millionths(long part, long all) {
            if (all == 0) {
                return NONE;
            }
            long digits = part / all;
            long rest = part % all;
            for (int i = 0; i < 6; i++) {
                rest *= 10;
                digits = digits * 10 + rest / all;
                rest %= all;
            }
            return (int) digits;
        }

        /** What p to the k-th is taken times in the POLYNOMIAL of a LOOK. */
        long factor(int look, int k) {
            start(STEPS);
            long sum = 0;
            int day = chart.book.term[DAY];
            for (int step = 0; step <= day; step++) {
                for (int place = 0; place < PLACES; place++) {
                    long gained = chart.goesOn(place, step) ? -chart.land.toll[place]
                            : chart.table[step * PLACES + place] / UNIT;
                    sum += gained * now[place * STEPS + k];
                }
                goOn(step, look);
            }
            return sum;
        }
    }

    /** The latest RIDE. */
    private static final class Trip {
        private final Book book;
        private final Teller teller;
        final int[] was = new int[STEPS];
        int last = NONE;
        long gained = 0;

        Trip(Book theBook, Teller theTeller) {
            book = theBook;
            teller = theTeller;
        }

        void go(int seed) {
            Land land = book.land;
            int day = book.term[DAY];
            int place = book.term[START];
            int drawn = seed;
            gained = 0;
            last = 0;
            was[0] = place;
            while (last < day && land.has(place) && land.kind[place] != END) {
                int road = 0;
                if (land.kind[place] != INN) {
                    drawn = (int) ((drawn * 1103L + 12345) % 1000003);
                    road = drawnRoad(place, drawn % 10);
                }
                gained -= land.toll[place];
                place = land.roadTo[place * ROADS + road];
                last++;
                was[last] = place;
            }
            gained += land.isKind(place, END) ? teller.tell(land, place, last, day)
                    : book.term[land.has(place) ? LATE : LOST];
        }

        private int drawnRoad(int place, int draw) {
            Land land = book.land;
            int[] tenth = land.kind[place] == FORK ? book.tenth : land.turnTenth;
            int row = (land.kind[place] == FORK ? land.look[place] : place) * ROADS;
            int road = 0;
            int upTo = tenth[row];
            while (road < land.roadCount[place] - 1 && draw >= upTo) {
                road++;
                upTo += tenth[row + road];
            }
            return road;
        }
    }
}
