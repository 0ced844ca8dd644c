import java.util.Arrays;
import java.util.NoSuchElementException;

/**
 * A river with a lid of boards: told as a text, with a law for lifting, work by the hour, and what can be asked of it.
 * Nothing is made after the constructor: all rows are used again, since a whole run of calls shares one small room.
 */
public final class LiddedRiver {
    public static final int NONE = -1;

    private static final int MOST_BOARDS = 16;
    private static final int MOST_BARGES = 4;
    private static final int MOST_STREETS = 8;
    private static final int MOST_CLAUSES = 60;
    private static final int MOST_LINES = 12;
    private static final int MOST_NESTED = 6;
    private static final int MOST_WORKS = 16;
    private static final int MOST_IMAGES = 3;
    private static final int MOST_STEPS = 240;
    private static final int TAPE_BYTES = 600;
    private static final int FEED_BYTES = 20;
    private static final int LAW_BYTES = 150;
    private static final int WORK_BYTES = 150;
    private static final int BOOK_BYTES = 100;
    private static final int LAST_HOUR = 960;
    private static final int DAY_HOURS = 24;
    private static final int FORESIGHT = 240;
    private static final int TALLEST_MAST = 9;
    private static final int LATEST_COMING = 48;
    private static final int MOST_WEIGHT = 20;
    private static final int MOST_FISH = 40;
    private static final int MOST_SMELL = 4;
    private static final int MOST_ANGLERS = 4;
    private static final int ICE_SIDES = 16;
    private static final int MOST_SEEDS = 20;
    private static final int TOO_MANY_WORKS = -20;
    private static final int FAULT_BASE = 10;

    private static final int OUT_OF_PLACE = 1;
    private static final int NO_SUCH_NUMBER = 2;
    private static final int TOO_MANY = 3;

    private static final int LEFT = 0;
    private static final int LIFTED = 1;
    private static final int SHUT = 2;

    private static final int NOT_THERE_YET = 0;
    private static final int ON_THE_RIVER = 1;
    private static final int THROUGH = 2;

    private final Tape tape;
    private final Bed bed;
    private final Bed draft;
    private final Law law;
    private final Lid lid;
    private final State state;
    private final Past past;
    private final Steps steps;
    private final Outlook outlook;
    private final Flood flood;
    private final Night night;
    private final Anglers anglers;
    private int refusedSteps;
    private int absentRefusals;
    private int argumentRefusals;

    public LiddedRiver() {
        tape = new Tape();
        bed = new Bed();
        draft = new Bed();
        law = new Law();
        lid = new Lid(bed, law);
        state = new State();
        past = new Past();
        steps = new Steps();
        outlook = new Outlook(bed, lid, state);
        flood = new Flood(bed);
        night = new Night(bed);
        anglers = new Anglers(bed);
    }

    // ---- texts

    public int feed(int a, int b, int c, int d, int e) {
        if (!tape.hasRoom(FEED_BYTES)) {
            return NONE;
        }
        tape.put(a);
        tape.put(b);
        tape.put(c);
        tape.put(d);
        tape.put(e);
        return tape.size();
    }

    public int river(int n) throws IllegalArgumentException {
        takeText(n, TAPE_BYTES);
        draft.read(tape);
        if (tape.isFaulty()) {
            return tape.faultAnswer();
        }
        bed.copyFrom(draft);
        law.beUntold();
        night.clearBook();
        state.clear();
        past.clear();
        refusedSteps = 0;
        outlook.forget();
        return bed.boards;
    }

    public int law(int n) throws IllegalArgumentException {
        takeText(n, LAW_BYTES);
        law.read(tape);
        if (tape.isFaulty()) {
            return tape.faultAnswer();
        }
        outlook.forget();
        return 1;
    }

    public int work(int n) throws IllegalArgumentException {
        takeText(n, WORK_BYTES);
        if (past.isFull()) {
            return TOO_MANY_WORKS;
        }
        steps.read(tape, bed.boards);
        if (tape.isFaulty()) {
            return tape.faultAnswer();
        }
        past.keep(state);
        int done = steps.run(state, lid);
        refusedSteps = steps.refused;
        outlook.forget();
        return done;
    }

    public int book(int n) throws IllegalArgumentException {
        takeText(n, BOOK_BYTES);
        night.readBook(tape);
        return tape.isFaulty() ? tape.faultAnswer() : night.lines;
    }

    public int fault() {
        return tape.faultPlace;
    }

    public int undo() {
        if (past.works == 0) {
            return NONE;
        }
        past.bringBack(state);
        refusedSteps = 0;
        outlook.forget();
        return past.works;
    }

    // ---- what is told of the river as it is now

    public int told(int what) throws IllegalArgumentException {
        needFit(what, 0, 9);
        switch (what) {
            case 0: return bed.boards;
            case 1: return bed.barges;
            case 2: return bed.streets;
            case 3: return state.hour();
            case 4: return Integer.bitCount(openNow());
            case 5: return state.allFines();
            case 6: return state.allKnocks();
            case 7: return state.bargesThrough();
            case 8: return night.lines;
            default: return refusedSteps;
        }
    }

    public int board(int board, int what) throws NoSuchElementException, IllegalArgumentException {
        needBoard(board);
        needFit(what, 0, 7);
        switch (what) {
            case 0: return bed.clear[board];
            case 1: return bed.bears[board];
            case 2: return bed.drains[board];
            case 3: return bed.fish[board];
            case 4: return state.modeOf(board);
            case 5: return openNow() >> board & 1;
            case 6: return state.finesOf(board);
            default: return state.knocksAt(board);
        }
    }

    public int barge(int barge, int what) throws NoSuchElementException, IllegalArgumentException {
        needThere(barge, bed.barges);
        needFit(what, 0, 4);
        switch (what) {
            case 0: return bed.mast[barge];
            case 1: return bed.comes[barge];
            case 2: return state.passedBy(barge);
            case 3: return state.whereIs(barge);
            default: return state.whereIs(barge) == THROUGH ? state.throughHour(barge) : NONE;
        }
    }

    public int street(int street, int what) throws NoSuchElementException, IllegalArgumentException {
        needThere(street, bed.streets);
        needFit(what, 0, 3);
        switch (what) {
            case 0: return bed.from[street];
            case 1: return bed.to[street];
            case 2: return bed.need[street];
            default: return bed.isDrained(street, openNow()) ? 1 : 0;
        }
    }

    public boolean lawful(int board, int hour, int day) throws NoSuchElementException, IllegalArgumentException {
        needBoard(board);
        needFit(hour, 0, DAY_HOURS - 1);
        needFit(day, 0, 99);
        return lid.isDue(board, hour + day * DAY_HOURS, state.finesOf(board));
    }

    public int busiest() {
        int midnight = state.hour() - state.hour() % DAY_HOURS;
        int best = 0;
        int most = NONE;
        for (int hour = 0; hour < DAY_HOURS; hour++) {
            int due = Integer.bitCount(lid.dueBits(state, midnight + hour));
            if (due > most) {
                most = due;
                best = hour;
            }
        }
        return best;
    }

    public int narrow(int m, int what) throws IllegalArgumentException {
        needMast(m);
        needFit(what, 0, 2);
        int longest = 0;
        int first = NONE;
        int row = 0;
        for (int board = 0; board < bed.boards; board++) {
            row = m <= bed.clear[board] ? row + 1 : 0;
            if (row > longest) {
                longest = row;
                first = board - row + 1;
            }
        }
        if (what == 0) {
            return bed.lowerThan(m);
        }
        return what == 1 ? longest : first;
    }

    public int worst(int what) throws IllegalArgumentException {
        needFit(what, 0, 1);
        int worst = NONE;
        int most = 0;
        for (int board = 0; board < bed.boards; board++) {
            int times = what == 0 ? state.finesOf(board) : state.knocksAt(board);
            if (times > most) {
                most = times;
                worst = board;
            }
        }
        return worst;
    }

    // ---- hours that would go by

    public int opens(int board) throws NoSuchElementException {
        needBoard(board);
        for (int hours = 0; hours <= FORESIGHT; hours++) {
            if (isBitOf(outlook.openIn(hours), board)) {
                return hours;
            }
        }
        return NONE;
    }

    public int often(int board, int n) throws NoSuchElementException, IllegalArgumentException {
        needBoard(board);
        needFit(n, 0, FORESIGHT);
        int times = 0;
        for (int hours = 0; hours < n; hours++) {
            times += outlook.openIn(hours) >> board & 1;
        }
        return times;
    }

    public int peak(int what) throws IllegalArgumentException {
        needFit(what, 0, 1);
        int best = 0;
        int most = 0;
        for (int hours = 0; hours < FORESIGHT; hours++) {
            int open = Integer.bitCount(outlook.openIn(hours));
            if (open > most) {
                most = open;
                best = hours;
            }
        }
        return what == 0 ? best : most;
    }

    public int trip(int m, int t, int what) throws IllegalArgumentException {
        needMast(m);
        needFit(t, 0, LATEST_COMING);
        needFit(what, 0, 2);
        outlook.sail(m, t);
        if (what == 0) {
            return outlook.sailedThrough;
        }
        return what == 1 ? outlook.sailKnocks : outlook.mostKnockedAt();
    }

    public int soonest(int m, int n, int what) throws IllegalArgumentException {
        needMast(m);
        needFit(n, 0, LATEST_COMING);
        needFit(what, 0, 1);
        int comes = NONE;
        int through = NONE;
        for (int t = 0; t <= n; t++) {
            outlook.sail(m, t);
            boolean isThrough = outlook.sailedThrough != NONE;
            if (isThrough && (through == NONE || outlook.sailedThrough <= through)) {
                through = outlook.sailedThrough;
                comes = t;
            }
        }
        return what == 0 ? comes : through;
    }

    public int hold(int m, int t) throws IllegalArgumentException {
        needMast(m);
        needFit(t, 0, LATEST_COMING);
        int held = 0;
        for (int board = 0; board < bed.boards; board++) {
            if (!lid.lets(m, board, outlook.openIn(t + bed.hoursTo(board)))) {
                held |= 1 << board;
            }
        }
        return held;
    }

    public int tallest(int t) throws IllegalArgumentException {
        needFit(t, 0, LATEST_COMING);
        for (int mast = TALLEST_MAST; mast >= 0; mast--) {
            outlook.sail(mast, t);
            if (outlook.sailedThrough != NONE) {
                return mast;
            }
        }
        return NONE;
    }

    public int letter(int board, int what) throws NoSuchElementException, IllegalArgumentException {
        needBoard(board);
        needFit(what, 0, 2);
        int firstHour = NONE;
        int firstBoard = NONE;
        int seen = 0;
        int at = board;
        for (int hours = 0; hours < MOST_BOARDS && at < bed.boards; hours++) {
            if (isBitOf(outlook.openIn(hours), at)) {
                seen++;
                firstHour = seen == 1 ? hours : firstHour;
                firstBoard = seen == 1 ? at : firstBoard;
            }
            at += bed.flow;
        }
        if (what == 2) {
            return seen;
        }
        return what == 0 ? firstHour : firstBoard;
    }

    public int ahead(int hours, int what) throws IllegalArgumentException {
        needFit(hours, 0, FORESIGHT);
        needFit(what, 0, 2);
        outlook.letPass(hours);
        if (what == 0) {
            return outlook.then.bargesThrough();
        }
        return what == 1 ? outlook.then.allFines() : outlook.then.allKnocks();
    }

    public int winters(int seed, int q, int hours, int what) throws IllegalArgumentException {
        needWinter(q, hours);
        needFit(what, 0, 3);
        outlook.freeze(seed, q, hours);
        switch (what) {
            case 0: return outlook.then.bargesThrough();
            case 1: return outlook.knocksSince();
            case 2: return outlook.frozenShut;
            default: return outlook.finesSince();
        }
    }

    public int span(int seed, int many, int q, int hours, int what) throws IllegalArgumentException {
        needFit(many, 1, MOST_SEEDS);
        needWinter(q, hours);
        needFit(what, 0, 2);
        int fewest = 0;
        int most = 0;
        int allThrough = 0;
        for (int more = 0; more < many; more++) {
            outlook.freeze(seed + more, q, hours);
            int knocks = outlook.knocksSince();
            fewest = more == 0 ? knocks : Math.min(fewest, knocks);
            most = Math.max(most, knocks);
            allThrough += outlook.then.bargesThrough() == bed.barges ? 1 : 0;
        }
        if (what == 0) {
            return fewest;
        }
        return what == 1 ? most : allThrough;
    }

    // ---- streets, smells, anglers, walks

    public int flood(int streets) throws IllegalArgumentException {
        needBits(streets, bed.streets);
        return flood.fewest(streets);
    }

    public int holds(int boards) throws IllegalArgumentException {
        needBits(boards, bed.boards);
        int held = 0;
        for (int street = 0; street < bed.streets; street++) {
            held |= bed.isDrained(street, boards) ? 1 << street : 0;
        }
        return held;
    }

    public int smells(int board, int boards) throws NoSuchElementException, IllegalArgumentException {
        needBoard(board);
        needBits(boards, bed.boards);
        return night.smellAt(board, boards);
    }

    public int openers(int what) throws IllegalArgumentException {
        needFit(what, 0, 3);
        night.weigh();
        switch (what) {
            case 0: return night.sets;
            case 1: return night.firstSet();
            case 2: return night.boardsInAll();
            default: return night.boardsInNone();
        }
    }

    public int nose(int what) throws IllegalArgumentException {
        needFit(what, 0, 1);
        night.weigh();
        int best = NONE;
        int fewest = NONE;
        for (int board = 0; board < bed.boards; board++) {
            int left = night.isInBook(board) ? NONE : night.mostLeftBy(board);
            if (left != NONE && (best == NONE || left < fewest)) {
                best = board;
                fewest = left;
            }
        }
        return what == 0 ? best : fewest;
    }

    public int anglers(int k, int what) throws IllegalArgumentException {
        needFit(k, 0, MOST_ANGLERS);
        needFit(what, 0, 1);
        anglers.settle(k);
        return what == 0 ? anglers.rests : anglers.firstCatch();
    }

    public int stand(int board, int k) throws NoSuchElementException, IllegalArgumentException {
        needBoard(board);
        needFit(k, 0, MOST_ANGLERS);
        anglers.settle(k);
        return anglers.rests == 0 ? 0 : anglers.first[board];
    }

    public int walk(int board, int other, int w) throws NoSuchElementException, IllegalArgumentException {
        needBoard(board);
        needBoard(other);
        needFit(w, 0, MOST_WEIGHT);
        int firm = bed.bearing(w) & ~openNow();
        // To tread back never helps, since a step or a leap on is always as near: so it goes straight.
        int way = other < board ? -1 : 1;
        int far = Math.abs(other - board);
        int beforeLast = NONE;
        int last = isBitOf(firm, board) ? 1 : NONE;
        for (int gone = 1; gone <= far; gone++) {
            int here = NONE;
            if (isBitOf(firm, board + way * gone) && (last != NONE || beforeLast != NONE)) {
                here = 1 + (beforeLast != NONE && (last == NONE || beforeLast < last) ? beforeLast : last);
            }
            beforeLast = last;
            last = here;
        }
        return last;
    }

    public int reach(int board, int w) throws NoSuchElementException, IllegalArgumentException {
        needBoard(board);
        needFit(w, 0, MOST_WEIGHT);
        int firm = bed.bearing(w) & ~openNow();
        int reached = firm & 1 << board;
        for (int turn = 0; turn < MOST_BOARDS; turn++) {
            reached |= firm & (reached << 1 | reached << 2 | reached >> 1 | reached >> 2);
        }
        return reached;
    }

    // ---- images and counts

    public int image() {
        return past.keepImage(state) ? past.imagesKept : NONE;
    }

    public int restore() {
        if (!past.bringBackImage(state)) {
            return NONE;
        }
        refusedSteps = 0;
        outlook.forget();
        return past.imagesKept;
    }

    public int status(int what) {
        if (what == 0) {
            return absentRefusals;
        }
        return what == 1 ? argumentRefusals : NONE;
    }

    public int count(int what) {
        switch (what) {
            case 0: return past.imagesKept;
            case 1: return tape.size();
            case 2: return past.works;
            default: return NONE;
        }
    }

    // ---- what calls need

    private void needThere(int number, int many) {
        if (number < 0 || number >= many) {
            absentRefusals++;
            throw new NoSuchElementException("there is no such one");
        }
    }

    private void needBoard(int board) {
        needThere(board, bed.boards);
    }

    private void needFit(int value, int least, int most) {
        if (value < least || value > most) {
            argumentRefusals++;
            throw new IllegalArgumentException("out of its range");
        }
    }

    private void needMast(int mast) {
        needFit(mast, 0, TALLEST_MAST);
    }

    private void needWinter(int q, int hours) {
        needFit(q, 0, ICE_SIDES);
        needFit(hours, 1, FORESIGHT);
    }

    private void needBits(int bits, int many) {
        needFit(bits, 0, allBits(many));
    }

    private void takeText(int n, int most) {
        needFit(n, 0, Math.min(most, tape.size()));
        tape.take(n);
    }

    private int openNow() {
        return outlook.openIn(0);
    }

    private static int allBits(int many) {
        return (1 << many) - 1;
    }

    private static boolean isBitOf(int bits, int number) {
        return (bits >> number & 1) == 1;
    }

    /** The TAPE, and the text taken from it: read by tokens from the left, the first FAULT kept. */
    private static final class Tape {
        private static final int END = -1;
        private static final int BLANK = 32;
        private static final int BEYOND_ALL_NUMBERS = 1000000;

        private final byte[] bytes = new byte[TAPE_BYTES];
        private int size;
        private int length;
        private int at;
        private int tokenAt;
        private int faultKind;
        private int faultPlace = NONE;

        int size() {
            return size;
        }

        boolean hasRoom(int more) {
            return size + more <= bytes.length;
        }

        void put(int number) {
            for (int shift = 24; shift >= 0 && size < bytes.length; shift -= 8) {
                bytes[size] = (byte) (number >> shift);
                size++;
            }
        }

        /** The first bytes are the text now; it is read before the next ones come, so they need no copy. */
        void take(int many) {
            length = Math.min(many, size);
            size = 0;
            at = 0;
            faultKind = 0;
            faultPlace = NONE;
        }

        boolean isFaulty() {
            return faultKind != 0;
        }

        int faultAnswer() {
            return faultKind - FAULT_BASE;
        }

        private void blame(int kind, int place) {
            if (faultKind == 0) {
                faultKind = kind;
                faultPlace = place;
            }
        }

        /** For what is wrong with the latest number or word as a whole. */
        void blameToken(int kind) {
            blame(kind, tokenAt);
        }

        /** The next byte that is no blank, not taken yet. */
        int next() {
            while (at < length && bytes[at] == BLANK) {
                at++;
            }
            return at < length ? bytes[at] & 255 : END;
        }

        boolean isAtEnd() {
            return next() == END;
        }

        void expectEnd() {
            if (!isAtEnd()) {
                blame(OUT_OF_PLACE, at);
            }
        }

        void expect(char sign) {
            if (next() == sign) {
                at++;
            } else {
                blame(OUT_OF_PLACE, at);
            }
        }

        /** Which of the signs stands here, and is taken; NONE, taking nothing. */
        int takeOneOf(String signs) {
            int here = next();
            for (int which = 0; which < signs.length(); which++) {
                if (signs.charAt(which) == here) {
                    tokenAt = at;
                    at++;
                    return which;
                }
            }
            return NONE;
        }

        boolean isAtDigit() {
            int here = next();
            return here >= '0' && here <= '9';
        }

        /** The number that stands here; NONE with a FAULT, an earlier one too. */
        int number(int least, int most) {
            next();
            tokenAt = at;
            int value = 0;
            while (at < length && bytes[at] >= '0' && bytes[at] <= '9') {
                value = Math.min(value * 10 + bytes[at] - '0', BEYOND_ALL_NUMBERS);
                at++;
            }
            if (at == tokenAt) {
                blame(OUT_OF_PLACE, at);
            } else if (value < least || value > most) {
                blame(NO_SUCH_NUMBER, tokenAt);
            }
            return isFaulty() ? NONE : value;
        }

        /** Which of the names, told with blanks between them, stands here as a WORD; NONE with a FAULT. */
        int word(String names) {
            next();
            tokenAt = at;
            while (at < length && bytes[at] >= 'a' && bytes[at] <= 'z') {
                at++;
            }
            int which = whichName(names);
            if (which == NONE) {
                blame(OUT_OF_PLACE, tokenAt);
            }
            return isFaulty() ? NONE : which;
        }

        private int whichName(String names) {
            int which = 0;
            int from = tokenAt;
            boolean isSame = true;
            for (int i = 0; i <= names.length(); i++) {
                if (i == names.length() || names.charAt(i) == BLANK) {
                    if (isSame && from == at) {
                        return which;
                    }
                    which++;
                    from = tokenAt;
                    isSame = true;
                } else {
                    isSame = isSame && from < at && bytes[from] == names.charAt(i);
                    from++;
                }
            }
            return NONE;
        }
    }

    /** What the text of a RIVER tells. */
    private static final class Bed {
        private static final String CLAUSES = "board barge flow street fish smell";
        private static final int DEFAULT_FLOW = 2;
        private static final int DEFAULT_SMELL = 2;

        private int boards;
        private final int[] clear = new int[MOST_BOARDS];
        private final int[] bears = new int[MOST_BOARDS];
        private final int[] drains = new int[MOST_BOARDS];
        private final int[] fish = new int[MOST_BOARDS];
        private int barges;
        private final int[] mast = new int[MOST_BARGES];
        private final int[] comes = new int[MOST_BARGES];
        private int streets;
        private final int[] from = new int[MOST_STREETS];
        private final int[] to = new int[MOST_STREETS];
        private final int[] need = new int[MOST_STREETS];
        private int flow = DEFAULT_FLOW;
        private int smell = DEFAULT_SMELL;

        void copyFrom(Bed other) {
            boards = other.boards;
            barges = other.barges;
            streets = other.streets;
            flow = other.flow;
            smell = other.smell;
            System.arraycopy(other.clear, 0, clear, 0, MOST_BOARDS);
            System.arraycopy(other.bears, 0, bears, 0, MOST_BOARDS);
            System.arraycopy(other.drains, 0, drains, 0, MOST_BOARDS);
            System.arraycopy(other.fish, 0, fish, 0, MOST_BOARDS);
            System.arraycopy(other.mast, 0, mast, 0, MOST_BARGES);
            System.arraycopy(other.comes, 0, comes, 0, MOST_BARGES);
            System.arraycopy(other.from, 0, from, 0, MOST_STREETS);
            System.arraycopy(other.to, 0, to, 0, MOST_STREETS);
            System.arraycopy(other.need, 0, need, 0, MOST_STREETS);
        }

        /** With a FAULT this bed is spoilt: it is for drafts. */
        void read(Tape tape) {
            boards = 0;
            barges = 0;
            streets = 0;
            flow = DEFAULT_FLOW;
            smell = DEFAULT_SMELL;
            Arrays.fill(fish, 0);
            for (int clauses = 0; clauses <= MOST_CLAUSES && !tape.isFaulty() && !tape.isAtEnd(); clauses++) {
                int kind = tape.word(CLAUSES);
                if (clauses == MOST_CLAUSES) {
                    tape.blameToken(TOO_MANY);
                }
                readClause(tape, kind);
                tape.expect(';');
            }
        }

        private void readClause(Tape tape, int kind) {
            switch (kind) {
                case 0: readBoard(tape); break;
                case 1: readBarge(tape); break;
                case 2: flow = tape.number(1, 4); break;
                case 3: readStreet(tape); break;
                case 4: readFish(tape); break;
                case 5: smell = tape.number(0, MOST_SMELL); break;
                default: break;
            }
        }

        private void readBoard(Tape tape) {
            if (boards == MOST_BOARDS) {
                tape.blameToken(TOO_MANY);
            }
            int height = tape.number(0, 9);
            int weight = tape.number(0, MOST_WEIGHT);
            int drain = tape.number(0, 9);
            if (!tape.isFaulty()) {
                clear[boards] = height;
                bears[boards] = weight;
                drains[boards] = drain;
                boards++;
            }
        }

        private void readBarge(Tape tape) {
            if (barges == MOST_BARGES) {
                tape.blameToken(TOO_MANY);
            }
            int height = tape.number(0, TALLEST_MAST);
            int hour = tape.number(0, 95);
            if (!tape.isFaulty()) {
                mast[barges] = height;
                comes[barges] = hour;
                barges++;
            }
        }

        private void readStreet(Tape tape) {
            if (streets == MOST_STREETS) {
                tape.blameToken(TOO_MANY);
            }
            int first = tape.number(0, boards - 1);
            int last = tape.number(first, boards - 1);
            int water = tape.number(1, 40);
            if (!tape.isFaulty()) {
                from[streets] = first;
                to[streets] = last;
                need[streets] = water;
                streets++;
            }
        }

        private void readFish(Tape tape) {
            int board = tape.number(0, boards - 1);
            int many = tape.number(0, MOST_FISH);
            if (!tape.isFaulty()) {
                fish[board] = many;
            }
        }

        boolean isDrained(int street, int open) {
            int drained = 0;
            for (int board = from[street]; board <= to[street]; board++) {
                drained += isBitOf(open, board) ? drains[board] : 0;
            }
            return drained >= need[street];
        }

        int lowerThan(int height) {
            int bits = 0;
            for (int board = 0; board < boards; board++) {
                bits |= clear[board] < height ? 1 << board : 0;
            }
            return bits;
        }

        int bearing(int weight) {
            int bits = 0;
            for (int board = 0; board < boards; board++) {
                bits |= bears[board] >= weight ? 1 << board : 0;
            }
            return bits;
        }

        /** In how many HOURS one that never waits comes to a BOARD. */
        int hoursTo(int board) {
            return flow > 0 ? board / flow : 0;
        }
    }

    /** The LAW, kept as codes that work on a stack: a fact, a number, or what joins the two topmost values. */
    private static final class Law {
        private static final String NAMES = "hour day board clear bears drains fish fined least most";
        private static final int HOUR = 0;
        private static final int FINED = 7;
        private static final int LEAST = 8;
        private static final int MOST = 9;
        private static final int PLUS = 10;
        private static final int MINUS = 11;
        private static final int TIMES = 12;
        private static final int BY = 13;
        private static final int LEAVES = 14;
        /** A number is kept as this and itself, so all other codes are below. */
        private static final int NUMBER = 15;

        private int[] codes = new int[LAW_BYTES];
        private int length;
        private int[] draft = new int[LAW_BYTES];
        private int drafted;
        private boolean minds;
        private final int[] stack = new int[LAW_BYTES];
        private final int[] facts = new int[LEAST];

        Law() {
            beUntold();
        }

        /** 1 - most [ hour - 12 , 12 - hour ]. */
        void beUntold() {
            drafted = 0;
            add(NUMBER + 1);
            add(HOUR);
            add(NUMBER + 12);
            add(MINUS);
            add(NUMBER + 12);
            add(HOUR);
            add(MINUS);
            add(MOST);
            add(MINUS);
            adoptDraft();
        }

        /** With a FAULT the LAW stays as it was. */
        void read(Tape tape) {
            drafted = 0;
            readSum(tape, 0);
            tape.expectEnd();
            if (!tape.isFaulty()) {
                adoptDraft();
            }
        }

        /** Whether what it asks for may change with fines. */
        boolean mindsFines() {
            return minds;
        }

        private void adoptDraft() {
            int[] old = codes;
            codes = draft;
            draft = old;
            length = drafted;
            minds = false;
            for (int i = 0; i < length; i++) {
                minds = minds || codes[i] == FINED;
            }
        }

        private void add(int code) {
            if (drafted < draft.length) {
                draft[drafted] = code;
                drafted++;
            }
        }

        private void readSum(Tape tape, int nested) {
            readProduct(tape, nested);
            for (int more = 0; more < LAW_BYTES && !tape.isFaulty(); more++) {
                int sign = tape.takeOneOf("+-");
                if (sign == NONE) {
                    return;
                }
                readProduct(tape, nested);
                add(PLUS + sign);
            }
        }

        private void readProduct(Tape tape, int nested) {
            readUnit(tape, nested);
            for (int more = 0; more < LAW_BYTES && !tape.isFaulty(); more++) {
                int sign = tape.takeOneOf("*/%");
                if (sign == NONE) {
                    return;
                }
                readUnit(tape, nested);
                add(TIMES + sign);
            }
        }

        private void readUnit(Tape tape, int nested) {
            if (tape.isAtDigit()) {
                add(NUMBER + tape.number(0, 999));
            } else if (tape.takeOneOf("(") != NONE) {
                if (isNestedDeeper(tape, nested)) {
                    readSum(tape, nested + 1);
                    tape.expect(')');
                }
            } else {
                int name = tape.word(NAMES);
                if (name >= LEAST && isNestedDeeper(tape, nested)) {
                    tape.expect('[');
                    readSum(tape, nested + 1);
                    tape.expect(',');
                    readSum(tape, nested + 1);
                    tape.expect(']');
                }
                add(name);
            }
        }

        private static boolean isNestedDeeper(Tape tape, int nested) {
            if (nested == MOST_NESTED) {
                tape.blameToken(TOO_MANY);
            }
            return !tape.isFaulty();
        }

        int value(Bed bed, int board, int hour, int fines) {
            findFacts(bed, board, hour, fines);
            int top = 0;
            for (int i = 0; i < length; i++) {
                int code = codes[i];
                boolean joins = code >= LEAST && code < NUMBER;
                if (joins && top >= 2) {
                    top--;
                    stack[top - 1] = join(code, stack[top - 1], stack[top]);
                } else if (!joins && code >= 0 && top < stack.length) {
                    stack[top] = code < LEAST ? facts[code] : code - NUMBER;
                    top++;
                }
            }
            return stack[0];
        }

        private void findFacts(Bed bed, int board, int hour, int fines) {
            facts[HOUR] = hour % DAY_HOURS;
            facts[1] = hour / DAY_HOURS;
            facts[2] = board;
            facts[3] = bed.clear[board];
            facts[4] = bed.bears[board];
            facts[5] = bed.drains[board];
            facts[6] = bed.fish[board];
            facts[FINED] = fines;
        }

        private static int join(int code, int a, int b) {
            switch (code) {
                case LEAST: return a < b ? a : b;
                case MOST: return a > b ? a : b;
                case PLUS: return a + b;
                case MINUS: return a - b;
                case TIMES: return a * b;
                case BY: return b == 0 ? 0 : a / b;
                case LEAVES: return b == 0 ? 0 : a % b;
                default: return 0;
            }
        }
    }

    /** All that WORK changes, in one row, so that it is kept and brought back by one copy. */
    private static final class State {
        private static final int HOUR = 0;
        private static final int LIFTED_BITS = 1;
        private static final int SHUT_BITS = 2;
        private static final int FINES = 3;
        private static final int KNOCKS = FINES + MOST_BOARDS;
        private static final int WHERE = KNOCKS + MOST_BOARDS;
        private static final int PASSED = WHERE + MOST_BARGES;
        private static final int THROUGH_HOUR = PASSED + MOST_BARGES;
        private static final int ROW = THROUGH_HOUR + MOST_BARGES;

        private final int[] row = new int[ROW];

        void clear() {
            Arrays.fill(row, 0);
        }

        void writeTo(int[] rows, int at) {
            System.arraycopy(row, 0, rows, at, ROW);
        }

        void readFrom(int[] rows, int at) {
            System.arraycopy(rows, at, row, 0, ROW);
        }

        int hour() {
            return row[HOUR];
        }

        void addHour() {
            row[HOUR]++;
        }

        int lifted() {
            return row[LIFTED_BITS];
        }

        int shut() {
            return row[SHUT_BITS];
        }

        int modeOf(int board) {
            if (isBitOf(lifted(), board)) {
                return LIFTED;
            }
            return isBitOf(shut(), board) ? SHUT : LEFT;
        }

        void setMode(int board, int mode) {
            int bit = 1 << board;
            row[LIFTED_BITS] = mode == LIFTED ? lifted() | bit : lifted() & ~bit;
            row[SHUT_BITS] = mode == SHUT ? shut() | bit : shut() & ~bit;
        }

        int finesOf(int board) {
            return row[FINES + board];
        }

        void fine(int boards) {
            for (int board = 0; board < MOST_BOARDS; board++) {
                row[FINES + board] += boards >> board & 1;
            }
        }

        int knocksAt(int board) {
            return row[KNOCKS + board];
        }

        void knock(int board) {
            row[KNOCKS + board]++;
        }

        int whereIs(int barge) {
            return row[WHERE + barge];
        }

        int passedBy(int barge) {
            return row[PASSED + barge];
        }

        int throughHour(int barge) {
            return row[THROUGH_HOUR + barge];
        }

        void come(int barge) {
            row[WHERE + barge] = ON_THE_RIVER;
        }

        void pass(int barge, int boards) {
            row[PASSED + barge] = boards;
        }

        void leave(int barge) {
            row[WHERE + barge] = THROUGH;
            row[THROUGH_HOUR + barge] = hour();
        }

        int allFines() {
            return sumOfBoards(FINES);
        }

        int allKnocks() {
            return sumOfBoards(KNOCKS);
        }

        private int sumOfBoards(int from) {
            int sum = 0;
            for (int board = 0; board < MOST_BOARDS; board++) {
                sum += row[from + board];
            }
            return sum;
        }

        int bargesThrough() {
            int many = 0;
            for (int barge = 0; barge < MOST_BARGES; barge++) {
                many += whereIs(barge) == THROUGH ? 1 : 0;
            }
            return many;
        }
    }

    /** The states ahead of each WORK that can be undone, and the IMAGES of all that. */
    private static final class Past {
        private static final int IMAGE_STATE = MOST_WORKS * State.ROW;
        private static final int IMAGE_WORKS = IMAGE_STATE + State.ROW;

        private final int[] rows = new int[MOST_WORKS * State.ROW];
        private int works;
        private final int[][] images = new int[MOST_IMAGES][IMAGE_WORKS + 1];
        private int imagesKept;

        void clear() {
            works = 0;
            imagesKept = 0;
        }

        boolean isFull() {
            return works >= MOST_WORKS;
        }

        void keep(State state) {
            if (!isFull()) {
                state.writeTo(rows, works * State.ROW);
                works++;
            }
        }

        void bringBack(State state) {
            if (works > 0) {
                works--;
                state.readFrom(rows, works * State.ROW);
            }
        }

        boolean keepImage(State state) {
            if (imagesKept >= MOST_IMAGES) {
                return false;
            }
            int[] image = images[imagesKept];
            System.arraycopy(rows, 0, image, 0, rows.length);
            state.writeTo(image, IMAGE_STATE);
            image[IMAGE_WORKS] = works;
            imagesKept++;
            return true;
        }

        boolean bringBackImage(State state) {
            if (imagesKept <= 0) {
                return false;
            }
            imagesKept--;
            int[] image = images[imagesKept];
            System.arraycopy(image, 0, rows, 0, rows.length);
            state.readFrom(image, IMAGE_STATE);
            works = image[IMAGE_WORKS];
            return true;
        }
    }

    /** How an HOUR goes by: what is open, who is fined, where BARGES go on. */
    private static final class Lid {
        private final Bed bed;
        private final Law law;

        Lid(Bed bed, Law law) {
            this.bed = bed;
            this.law = law;
        }

        boolean isDue(int board, int hour, int fines) {
            return law.value(bed, board, hour, fines) > 0;
        }

        /** The BOARDS that are to be open by the LAW in an HOUR, fined as in a state. */
        int dueBits(State state, int hour) {
            int bits = 0;
            for (int board = 0; board < bed.boards; board++) {
                bits |= law.value(bed, board, hour, state.finesOf(board)) > 0 ? 1 << board : 0;
            }
            return bits;
        }

        int openBits(State state, int due) {
            return state.lifted() | due & ~state.shut();
        }

        boolean lets(int mast, int board, int open) {
            return mast <= bed.clear[board] || isBitOf(open, board);
        }

        /** How many BOARDS one has passed behind an HOUR, who had passed so many ahead of it. */
        int passedOn(int mast, int passed, int open) {
            int now = passed;
            int most = Math.min(passed + bed.flow, bed.boards);
            while (now < most && lets(mast, now, open)) {
                now++;
            }
            return now;
        }

        boolean hasKnocked(int passed, int now) {
            return now < bed.boards && now - passed < bed.flow;
        }

        void passHour(State state, int due, int frozen) {
            int open = openBits(state, due) & ~frozen;
            state.fine((open ^ due) & ~frozen);
            for (int barge = 0; barge < bed.barges; barge++) {
                if (state.whereIs(barge) == NOT_THERE_YET && bed.comes[barge] == state.hour()) {
                    state.come(barge);
                }
                if (state.whereIs(barge) == ON_THE_RIVER) {
                    int passed = state.passedBy(barge);
                    int now = passedOn(bed.mast[barge], passed, open);
                    state.pass(barge, now);
                    if (hasKnocked(passed, now)) {
                        state.knock(now);
                    }
                    if (now == bed.boards) {
                        state.leave(barge);
                    }
                }
            }
            state.addHour();
        }
    }

    /** The STEPS of a WORK, one behind the other, those of an again right behind it. */
    private static final class Steps {
        private static final String NAMES = "lift shut leave hour again";
        private static final int LIFT = 0;
        private static final int CLOSE = 1;
        private static final int HOUR = 3;
        private static final int AGAIN = 4;

        private final int[] kinds = new int[WORK_BYTES];
        private final int[] numbers = new int[WORK_BYTES];
        private final int[] ends = new int[WORK_BYTES];
        private int length;
        private int begun;
        private int done;
        private int refused;

        void read(Tape tape, int boards) {
            length = 0;
            readRow(tape, boards, 0);
            tape.expectEnd();
        }

        private void readRow(Tape tape, int boards, int nested) {
            for (int more = 0; more < WORK_BYTES && !tape.isFaulty(); more++) {
                boolean isOver = nested == 0 ? tape.isAtEnd() : tape.next() == ']';
                if (isOver) {
                    return;
                }
                readStep(tape, boards, nested);
                tape.expect(';');
            }
        }

        private void readStep(Tape tape, int boards, int nested) {
            int kind = tape.word(NAMES);
            if (kind == AGAIN && nested == MOST_NESTED) {
                tape.blameToken(TOO_MANY);
            }
            int number = 0;
            if (kind == AGAIN) {
                number = tape.number(0, 60);
            } else if (kind != HOUR) {
                number = tape.number(0, boards - 1);
            }
            if (tape.isFaulty() || length >= kinds.length) {
                return;
            }
            int step = length;
            length++;
            kinds[step] = kind;
            numbers[step] = number;
            if (kind == AGAIN) {
                tape.expect('[');
                readRow(tape, boards, nested + 1);
                tape.expect(']');
            }
            ends[step] = length;
        }

        /** How many were done. */
        int run(State state, Lid lid) {
            begun = 0;
            done = 0;
            refused = 0;
            runRow(state, lid, 0, length);
            return done;
        }

        /** Goes no deeper than agains are nested. */
        private void runRow(State state, Lid lid, int from, int to) {
            for (int step = from; step < to && begun < MOST_STEPS; step = ends[step]) {
                begun++;
                if (kinds[step] == AGAIN) {
                    for (int turn = 0; turn < numbers[step] && begun < MOST_STEPS; turn++) {
                        runRow(state, lid, step + 1, ends[step]);
                    }
                } else if (isDone(state, lid, step)) {
                    done++;
                } else {
                    refused++;
                }
            }
        }

        private boolean isDone(State state, Lid lid, int step) {
            if (kinds[step] == HOUR) {
                if (state.hour() >= LAST_HOUR) {
                    return false;
                }
                lid.passHour(state, lid.dueBits(state, state.hour()), 0);
                return true;
            }
            int mode = modeBy(kinds[step]);
            if (state.modeOf(numbers[step]) == mode) {
                return false;
            }
            state.setMode(numbers[step], mode);
            return true;
        }

        private static int modeBy(int kind) {
            if (kind == LIFT) {
                return LIFTED;
            }
            return kind == CLOSE ? SHUT : LEFT;
        }
    }

    /** What would be, were HOURS to go by from now on; nothing stays changed. */
    private static final class Outlook {
        private final Bed bed;
        private final Lid lid;
        private final State now;
        private final State then = new State();
        private final int[] due = new int[FORESIGHT + 1];
        private int known;
        private final int[] knockedAt = new int[MOST_BOARDS];
        private int sailedThrough;
        private int sailKnocks;
        private int seed;
        private int frozenShut;

        Outlook(Bed bed, Lid lid, State now) {
            this.bed = bed;
            this.lid = lid;
            this.now = now;
        }

        /** To be called whenever RIVER, LAW or state have become others. */
        void forget() {
            known = 0;
        }

        /** What is due in so many HOURS, fined as now: worked out once, as far as it is asked for. */
        private int dueIn(int hours) {
            if (hours < 0 || hours >= due.length) {
                return 0;
            }
            while (known <= hours) {
                due[known] = lid.dueBits(now, now.hour() + known);
                known++;
            }
            return due[hours];
        }

        /** A BOARD that is left is never fined, so later fines change nothing of what is open. */
        int openIn(int hours) {
            return lid.openBits(now, dueIn(hours));
        }

        /** A TRIP. */
        void sail(int mast, int t) {
            sailedThrough = NONE;
            sailKnocks = 0;
            Arrays.fill(knockedAt, 0);
            int passed = 0;
            for (int hours = t; hours < FORESIGHT && sailedThrough == NONE; hours++) {
                int on = lid.passedOn(mast, passed, openIn(hours));
                if (lid.hasKnocked(passed, on)) {
                    sailKnocks++;
                    knockedAt[on]++;
                }
                if (on == bed.boards) {
                    sailedThrough = hours;
                }
                passed = on;
            }
        }

        int mostKnockedAt() {
            int best = NONE;
            for (int board = 0; board < bed.boards; board++) {
                if (knockedAt[board] > (best == NONE ? 0 : knockedAt[best])) {
                    best = board;
                }
            }
            return best;
        }

        void letPass(int hours) {
            freeze(0, 0, hours);
        }

        /** WINTERS; by a Q of 0 nothing ever freezes. */
        void freeze(int winterSeed, int q, int hours) {
            now.writeTo(then.row, 0);
            seed = winterSeed;
            frozenShut = 0;
            for (int gone = 0; gone < hours; gone++) {
                int frozen = drawFrozen(q);
                int dueThen = dueThen(gone);
                frozenShut += Integer.bitCount(lid.openBits(then, dueThen) & frozen);
                lid.passHour(then, dueThen, frozen);
            }
        }

        private int drawFrozen(int q) {
            int frozen = 0;
            for (int board = 0; board < bed.boards; board++) {
                seed = seed * 1103515245 + 12345;
                int drawn = (seed >>> 16 & 32767) % ICE_SIDES;
                frozen |= drawn < q ? 1 << board : 0;
            }
            return frozen;
        }

        private int dueThen(int gone) {
            int bits = dueIn(gone);
            if (!lid.law.mindsFines()) {
                return bits;
            }
            for (int board = 0; board < bed.boards; board++) {
                int fines = then.finesOf(board);
                if (fines != now.finesOf(board)) {
                    int bit = 1 << board;
                    bits = lid.isDue(board, then.hour(), fines) ? bits | bit : bits & ~bit;
                }
            }
            return bits;
        }

        int knocksSince() {
            return then.allKnocks() - now.allKnocks();
        }

        int finesSince() {
            return then.allFines() - now.allFines();
        }
    }

    /** FLOOD: tries by how many BOARDS, from few to many, the least bits first. */
    private static final class Flood {
        private final Bed bed;
        private final int[] lacks = new int[MOST_STREETS];
        private int chosen;

        Flood(Bed bed) {
            this.bed = bed;
        }

        int fewest(int streets) {
            for (int street = 0; street < bed.streets; street++) {
                lacks[street] = isBitOf(streets, street) ? bed.need[street] : 0;
            }
            for (int many = 0; many <= bed.boards; many++) {
                chosen = 0;
                if (choose(bed.boards - 1, many)) {
                    return chosen;
                }
            }
            return NONE;
        }

        /** Whether all hold by so many more of BOARDS 0 to last; goes a level deeper for each BOARD. */
        private boolean choose(int last, int many) {
            if (!couldHold(last, many)) {
                return false;
            }
            if (many == 0 || last < 0) {
                return many == 0;
            }
            if (choose(last - 1, many)) {
                return true;
            }
            drain(last, bed.drains[last]);
            if (choose(last - 1, many - 1)) {
                chosen |= 1 << last;
                return true;
            }
            drain(last, -bed.drains[last]);
            return false;
        }

        private void drain(int board, int water) {
            for (int street = 0; street < bed.streets; street++) {
                if (bed.from[street] <= board && board <= bed.to[street]) {
                    lacks[street] -= water;
                }
            }
        }

        /** No choice is lost: no street can get more than all that is left of it, nor than many times its best. */
        private boolean couldHold(int last, int many) {
            for (int street = 0; street < bed.streets; street++) {
                int all = 0;
                int best = 0;
                if (lacks[street] > 0) {
                    int to = Math.min(last, bed.to[street]);
                    for (int board = bed.from[street]; board <= to; board++) {
                        all += bed.drains[board];
                        best = Math.max(best, bed.drains[board]);
                    }
                }
                if (lacks[street] > Math.min(all, many * best)) {
                    return false;
                }
            }
            return true;
        }
    }

    /**
     * SMELLS and OPENERS. What a BOARD smells hangs on a window alone: itself (the window's highest bit) and the K
     * BOARDS ahead of it; so sets are counted by windows, not one by one.
     */
    private static final class Night {
        private static final int WINDOWS = 32;
        private static final int SCENTS = 16;

        private final Bed bed;
        private int[] smelt = new int[MOST_BOARDS];
        private int[] draft = new int[MOST_BOARDS];
        private int lines;
        private final int[] waysTo = new int[MOST_BOARDS * WINDOWS];
        private final int[] waysOn = new int[MOST_BOARDS * WINDOWS];
        private final int[] tally = new int[SCENTS];
        private int sets;

        Night(Bed bed) {
            this.bed = bed;
            clearBook();
        }

        void clearBook() {
            Arrays.fill(smelt, NONE);
            lines = 0;
        }

        /** With a FAULT the BOOK stays as it was. */
        void readBook(Tape tape) {
            Arrays.fill(draft, NONE);
            int read = 0;
            while (read <= MOST_LINES && !tape.isFaulty() && !tape.isAtEnd()) {
                readLine(tape, read);
                read++;
            }
            if (!tape.isFaulty()) {
                int[] old = smelt;
                smelt = draft;
                draft = old;
                lines = read;
            }
        }

        private void readLine(Tape tape, int read) {
            int board = tape.number(0, bed.boards - 1);
            if (board != NONE && draft[board] != NONE) {
                tape.blameToken(NO_SUCH_NUMBER);
            }
            if (read == MOST_LINES) {
                tape.blameToken(TOO_MANY);
            }
            int smell = tape.number(0, 99);
            tape.expect(';');
            if (!tape.isFaulty()) {
                draft[board] = smell;
            }
        }

        boolean isInBook(int board) {
            return smelt[board] != NONE;
        }

        int smellAt(int board, int opened) {
            int first = board - bed.smell;
            return scentOf((first < 0 ? opened << -first : opened >> first) & windows() - 1);
        }

        private int windows() {
            return 2 << bed.smell;
        }

        private static int scentOf(int window) {
            int scent = 0;
            for (int bit = 0; bit <= MOST_SMELL; bit++) {
                scent += isBitOf(window, bit) ? bit + 1 : 0;
            }
            return scent;
        }

        private boolean isRight(int board, int window) {
            return smelt[board] == NONE || smelt[board] == scentOf(window);
        }

        /** The window a BOARD farther, which is opened or not. */
        private int windowBehind(int window, int opened) {
            return window >> 1 | opened << bed.smell;
        }

        private int waysBy(int board, int window) {
            return waysTo[board * WINDOWS + window] * waysOn[board * WINDOWS + window];
        }

        /** Counts the OPENERS by the windows that they show at each BOARD. */
        void weigh() {
            Arrays.fill(waysTo, 0);
            Arrays.fill(waysOn, 0);
            for (int board = 0; board < bed.boards; board++) {
                for (int window = 0; window < windows(); window++) {
                    weighTo(board, window);
                }
            }
            for (int board = bed.boards - 1; board >= 0; board--) {
                for (int window = 0; window < windows(); window++) {
                    weighOn(board, window);
                }
            }
            sets = bed.boards == 0 ? 1 : 0;
            for (int window = 0; bed.boards > 0 && window < windows(); window++) {
                sets += waysBy(bed.boards - 1, window);
            }
        }

        /** Goes on from a window ahead of a BOARD; ahead of BOARD 0 nothing was opened. */
        private void weighTo(int board, int before) {
            int ways = before == 0 ? 1 : 0;
            if (board > 0) {
                ways = waysTo[(board - 1) * WINDOWS + before];
            }
            for (int opened = 0; opened <= 1; opened++) {
                int window = windowBehind(before, opened);
                if (isRight(board, window)) {
                    waysTo[board * WINDOWS + window] += ways;
                }
            }
        }

        private void weighOn(int board, int window) {
            int ways = 0;
            if (board == bed.boards - 1) {
                ways = 1;
            } else {
                for (int opened = 0; opened <= 1; opened++) {
                    int behind = windowBehind(window, opened);
                    ways += isRight(board + 1, behind) ? waysOn[(board + 1) * WINDOWS + behind] : 0;
                }
            }
            waysOn[board * WINDOWS + window] = ways;
        }

        /** The least bits: from the last BOARD on back, each not opened where that can be. */
        int firstSet() {
            if (sets == 0) {
                return NONE;
            }
            int bits = 0;
            int window = leastWindow();
            for (int board = bed.boards - 1; board >= 0; board--) {
                bits |= (window >> bed.smell & 1) << board;
                window = window << 1 & windows() - 1;
                if (board > 0 && waysTo[(board - 1) * WINDOWS + window] == 0) {
                    window |= 1;
                }
            }
            return bits;
        }

        private int leastWindow() {
            for (int window = 0; bed.boards > 0 && window < windows(); window++) {
                if (waysBy(bed.boards - 1, window) > 0) {
                    return window;
                }
            }
            return 0;
        }

        private int setsWith(int board) {
            int with = 0;
            for (int window = 0; window < windows(); window++) {
                with += isBitOf(window, bed.smell) ? waysBy(board, window) : 0;
            }
            return with;
        }

        int boardsInAll() {
            return boardsIn(sets);
        }

        int boardsInNone() {
            return boardsIn(0);
        }

        private int boardsIn(int many) {
            int bits = 0;
            for (int board = 0; board < bed.boards && sets > 0; board++) {
                bits |= setsWith(board) == many ? 1 << board : 0;
            }
            return bits;
        }

        /** How many OPENERS are left at the worst, whatever a BOARD smells. */
        int mostLeftBy(int board) {
            Arrays.fill(tally, 0);
            int most = 0;
            for (int window = 0; window < windows(); window++) {
                int scent = scentOf(window);
                tally[scent] += waysBy(board, window);
                most = Math.max(most, tally[scent]);
            }
            return most;
        }
    }

    /** ANGLERS: all ways to stand, from BOARD 0 on fewest first. */
    private static final class Anglers {
        private final Bed bed;
        private final int[] standing = new int[MOST_BOARDS];
        private final int[] first = new int[MOST_BOARDS];
        private int rests;

        Anglers(Bed bed) {
            this.bed = bed;
        }

        void settle(int many) {
            rests = 0;
            place(0, many);
        }

        /** Goes a level deeper for each BOARD. */
        private void place(int board, int many) {
            if (board == bed.boards) {
                if (many == 0 && isRest()) {
                    keepFirst();
                    rests++;
                }
                return;
            }
            for (int here = 0; here <= many; here++) {
                standing[board] = here;
                place(board + 1, many - here);
            }
        }

        /** To go where one stands never gives more, so no one's own BOARD needs to be left out. */
        private boolean isRest() {
            int leastHad = MOST_FISH;
            int mostToGet = 0;
            for (int board = 0; board < bed.boards; board++) {
                int here = standing[board];
                if (here > 0) {
                    leastHad = Math.min(leastHad, bed.fish[board] / here);
                }
                mostToGet = Math.max(mostToGet, bed.fish[board] / (here + 1));
            }
            return leastHad >= mostToGet;
        }

        private void keepFirst() {
            if (rests == 0) {
                System.arraycopy(standing, 0, first, 0, MOST_BOARDS);
            }
        }

        /** What all have together by the first REST; NONE without. */
        int firstCatch() {
            int all = 0;
            for (int board = 0; board < bed.boards; board++) {
                int here = first[board];
                all += here > 0 ? bed.fish[board] / here * here : 0;
            }
            return rests == 0 ? NONE : all;
        }
    }
}
