import java.util.Arrays;

/** Level crossings where the centuries wait: a district told as a text, and what one may ask of it. */
public final class CenturyGates {
    public static final int NONE = -1;
    public static final long NOTHING = -1000000000000000L;

    private static final int TAPE_MOST = 1600;
    private static final int FEED_BYTES = 20;
    private static final int STATEMENTS_MOST = 80;
    private static final int GATES_MOST = 6;
    private static final int PLACES_MOST = 7;
    private static final int WAYS_MOST = 12;
    private static final int ERAS_MOST = 5;
    private static final int CARS_MOST = 5;
    private static final int OPEN_MOST = 6;
    private static final int NAME_MOST = 6;
    private static final int DIGITS_MOST = 4;
    private static final int NUMBER_MOST = 9999;
    private static final int LETTERS = 26;

    private static final int MINUTES = 200;
    private static final int FROM_MOST = 99;
    private static final int LATES = 100;
    private static final int LATE_MOST = 99;
    private static final int KNOWS_MOST = 999;
    private static final int DAY_MOST = 999;
    private static final int DAYS_MOST = 40;
    private static final int AHEAD_MOST = 60;
    private static final int KEPT_MOST = 40;
    private static final int KEPT_PARTS = 3;
    private static final int UNDO_MOST = 20;
    private static final int SEEN_MOST = 16;
    private static final int SEEN_PARTS = 3;
    private static final int CLOSINGS_MOST = 40;
    private static final int SUM_MOST = 1000000;
    private static final int PIGS_OF = 100;
    private static final int PIGS_LATER = 20;

    /** 200 MINUTES of a GATE are bits in four longs; a row of bits has those of all GATES. */
    private static final int GATE_LONGS = 4;
    private static final int ROW = 24;

    private static final int IMAGE_MOST = 34;
    private static final int IMAGE_SUM_START = 229;
    private static final int IMAGE_SUM_MODULUS = 251;

    /** The columns of the tables of a DISTRICT. */
    private static final int GATE_MILE = 0;
    private static final int WAY_FROM = 0;
    private static final int WAY_TO = 1;
    private static final int WAY_STEPS = 2;
    private static final int WAY_GATE = 3;
    private static final int ERA_LONG = 0;
    private static final int ERA_PACE = 1;
    private static final int ERA_FROM = 2;
    private static final int CAR_AT = 0;
    private static final int CAR_TO = 1;
    private static final int CAR_FROM = 2;
    private static final int COLUMNS = 4;

    private static final int FAULT_TEXT = 1;
    private static final int FAULT_NUMBER = 2;
    private static final int FAULT_NAME = 3;
    private static final int FAULT_OPEN = 4;
    private static final int FAULT_MANY = 5;

    private static final int REFUSED_TAPE = 0;
    private static final int REFUSED_TEXT = 1;
    private static final int REFUSED_ACT = 2;
    private static final int REFUSED_DAYS = 3;
    private static final int REFUSED_UNDO = 4;
    private static final int REFUSED_SET = 5;
    private static final int REFUSED_KINDS = 6;

    /** Every word of the language, each with a blank behind it, in the order of the numbers below. */
    private static final String WORDS = "district gate at place road to steps lane over era long pace from car shuts late sees pigs ahead behind minute day waits knows number closed drive or and not all min max first last often total most least ";
    private static final int WORD_DISTRICT = 0;
    private static final int WORD_GATE = 1;
    private static final int WORD_AT = 2;
    private static final int WORD_PLACE = 3;
    private static final int WORD_ROAD = 4;
    private static final int WORD_TO = 5;
    private static final int WORD_STEPS = 6;
    private static final int WORD_LANE = 7;
    private static final int WORD_OVER = 8;
    private static final int WORD_ERA = 9;
    private static final int WORD_LONG = 10;
    private static final int WORD_PACE = 11;
    private static final int WORD_FROM = 12;
    private static final int WORD_CAR = 13;
    private static final int WORD_SHUTS = 14;
    private static final int WORD_LATE = 15;
    private static final int WORD_SEES = 16;
    private static final int WORD_PIGS = 17;
    private static final int WORD_AHEAD = 18;
    private static final int WORD_BEHIND = 19;
    private static final int WORD_MINUTE = 20;
    private static final int WORD_DAY = 21;
    private static final int WORD_WAITS = 22;
    private static final int WORD_KNOWS = 23;
    private static final int WORD_NUMBER = 24;
    private static final int WORD_CLOSED = 25;
    private static final int WORD_DRIVE = 26;
    private static final int WORD_OR = 27;
    private static final int WORD_AND = 28;
    private static final int WORD_NOT = 29;
    private static final int WORD_ALL = 30;
    private static final int WORD_MIN = 31;
    private static final int WORD_MAX = 32;
    private static final int OWN_WORDS = 33;
    private static final int WORD_FIRST = 33;
    private static final int WORD_LAST = 34;
    private static final int WORD_OFTEN = 35;
    private static final int WORD_TOTAL = 36;
    private static final int WORD_MOST = 37;
    private static final int WORD_LEAST = 38;

    /** Which words are a PART where, as bits by the words' numbers. */
    private static final long PARTS_SHUTS = 1L << WORD_AHEAD | 1L << WORD_BEHIND | 1L << WORD_LONG
            | 1L << WORD_PACE | 1L << WORD_MINUTE;
    private static final long PARTS_LATE = 1L << WORD_LATE | 1L << WORD_LONG | 1L << WORD_PACE
            | 1L << WORD_DAY | 1L << WORD_WAITS;
    private static final long PARTS_SEES = 1L << WORD_WAITS | 1L << WORD_KNOWS | 1L << WORD_DAY;
    private static final long PARTS_QUESTION = 1L << WORD_NUMBER | 1L << WORD_AT | 1L << WORD_TO
            | 1L << WORD_FROM | 1L << WORD_KNOWS | 1L << WORD_DAY | 1L << WORD_WAITS
            | 1L << WORD_CLOSED | 1L << WORD_DRIVE;

    /** Steps of a program: a number is itself (0 .. 9999), a PART by its word from PART on, the others are below 0. */
    private static final int PART = 10000;
    private static final int DO_OR = -1;
    private static final int DO_AND = -2;
    private static final int DO_LESS = -3;
    private static final int DO_MORE = -4;
    private static final int DO_SAME = -5;
    private static final int DO_PLUS = -6;
    private static final int DO_MINUS = -7;
    private static final int DO_TIMES = -8;
    private static final int DO_DIVIDE = -9;
    private static final int DO_MIN = -10;
    private static final int DO_MAX = -11;
    private static final int DO_NOT = -12;
    private static final int DO_CLOSED = -13;
    private static final int DO_DRIVE = -14;
    private static final int STACK_MOST = 64;
    /** Few programs are long: room for the others is made when one is. */
    private static final int PROGRAM_FIRST = 64;

    private static final int TOKEN_END = 0;
    private static final int TOKEN_WORD = 1;
    private static final int TOKEN_NUMBER = 2;
    private static final int TOKEN_SIGN = 3;
    private static final int TOKEN_GLUED = 4;

    private final Tape tape;
    private final Parser parser;
    private District district;
    /** A text is read into this one, so that a FAULT leaves THE DISTRICT as it is. */
    private District spare;
    private final State state;
    private final State ahead;
    private final State[] past;
    private int pastCount;
    private int pastNext;
    private final Days days;
    private final Keepers keepers;
    private final long[] closed;
    private final int[] seen;
    private int seenCount;
    private final int[] lates;
    private final int[] shutCounts;
    private final int[] image;
    private int imageSize;
    private final int[] refused;
    private int seed;

    public CenturyGates() {
        tape = new Tape();
        parser = new Parser(tape);
        district = new District();
        spare = new District();
        state = new State();
        ahead = new State();
        past = new State[UNDO_MOST];
        days = new Days(district);
        keepers = new Keepers();
        closed = new long[ROW];
        seen = new int[SEEN_MOST * SEEN_PARTS];
        lates = new int[LATES];
        shutCounts = new int[GATES_MOST * MINUTES];
        image = new int[IMAGE_MOST];
        refused = new int[REFUSED_KINDS];
        seed = 1;
    }

    public int feed(int a, int b, int c, int d, int e) {
        if (tape.size + FEED_BYTES > TAPE_MOST) {
            return refuse(REFUSED_TAPE);
        }
        tape.append(a);
        tape.append(b);
        tape.append(c);
        tape.append(d);
        tape.append(e);
        return tape.size;
    }

    public boolean end(int n) {
        if (n < 0 || n > tape.size) {
            refuse(REFUSED_TAPE);
            return false;
        }
        tape.size = n;
        return true;
    }

    public int district() {
        int statements = parser.readDistrict(spare);
        tape.size = 0;
        if (statements == NONE) {
            return refuse(REFUSED_TEXT);
        }
        District before = district;
        district = spare;
        spare = before;
        days.take(district);
        state.start(district);
        pastCount = 0;
        seenCount = 0;
        return statements;
    }

    public int fault(int what) {
        return what == 0 ? tape.faultKind : what == 1 ? tape.faultPlace : NONE;
    }

    public int has(int what) {
        switch (what) {
            case 0: return district.miles;
            case 1: return district.gates.count;
            case 2: return district.places.count;
            case 3: return district.ways.count;
            case 4: return district.eras.count;
            case 5: return district.cars.count;
            case 6: return state.day;
            case 7: return Integer.bitCount(state.up);
            case 8: return state.keptCount;
            case 9: return seenCount;
            case 10: return pastCount;
            default: return NONE;
        }
    }

    public int letter(int kind, int which, int k) {
        switch (kind) {
            case 0: return district.gates.letterOf(which, k);
            case 1: return district.places.letterOf(which, k);
            case 2: return district.eras.letterOf(which, k);
            case 3: return district.cars.letterOf(which, k);
            default: return NONE;
        }
    }

    public int gate(int gate, int what) {
        if (!district.gates.isThere(gate)) {
            return NONE;
        }
        switch (what) {
            case 0: return district.gates.cell(gate, GATE_MILE);
            case 1: return state.isUp(gate) ? 1 : 0;
            default: return NONE;
        }
    }

    public int era(int era, int what) {
        if (!district.eras.isThere(era)) {
            return NONE;
        }
        switch (what) {
            case 0: return district.eras.cell(era, ERA_LONG);
            case 1: return district.eras.cell(era, ERA_PACE);
            case 2: return district.eras.cell(era, ERA_FROM);
            case 3: return state.late[era];
            default: return NONE;
        }
    }

    public int car(int car, int what) {
        if (!district.cars.isThere(car)) {
            return NONE;
        }
        switch (what) {
            case 0: return state.at[car];
            case 1: return state.goal[car];
            case 2: return district.cars.cell(car, CAR_FROM);
            case 3: return state.knows[car];
            default: return NONE;
        }
    }

    public int kept(int k, int what) {
        if (k < 0 || k >= state.keptCount || what < 0 || what >= KEPT_PARTS) {
            return NONE;
        }
        return state.kept[k * KEPT_PARTS + what];
    }

    // ---- minutes

    public int head(int era, int minute) {
        if (!district.eras.isThere(era) || !isMinute(minute)) {
            return NONE;
        }
        return days.line.headOf(era, state.late[era], minute);
    }

    public int closed(int gate, int minute) {
        if (!district.gates.isThere(gate) || !isMinute(minute)) {
            return NONE;
        }
        closeNow();
        return isMarked(closed, gate, minute) ? 1 : 0;
    }

    public int opens(int gate, int minute) {
        if (!district.gates.isThere(gate) || !isMinute(minute)) {
            return NONE;
        }
        closeNow();
        return firstOpen(closed, gate, minute);
    }

    public int drive(int from, int to, int minute) {
        if (!district.places.isThere(from) || !district.places.isThere(to) || !isMinute(minute)) {
            return NONE;
        }
        closeNow();
        days.roads.go(from, minute, closed);
        return days.roads.arrival(to);
    }

    public int waits(int car) {
        if (!district.cars.isThere(car)) {
            return NONE;
        }
        closeNow();
        return days.waitOf(state, car, closed);
    }

    // ---- ahead

    public int later(int car, int n, int what) {
        if (!district.cars.isThere(car) || what < 0 || what > 1 || !goesAhead(n)) {
            return NONE;
        }
        return what == 0 ? ahead.at[car] : ahead.knows[car];
    }

    public int late(int era, int n) {
        if (!district.eras.isThere(era) || !goesAhead(n)) {
            return NONE;
        }
        return ahead.late[era];
    }

    // ---- gates, keepers

    public int lift(int car, int minute) {
        if (!district.cars.isThere(car) || !isMinute(minute)) {
            return NONE;
        }
        for (int count = 0; count <= district.gates.count; count++) {
            int bits = leastLift(car, minute, count);
            if (bits != NONE) {
                return bits;
            }
        }
        return NONE;
    }

    public int leave(int car, int what) {
        if (!district.cars.isThere(car) || what < 0 || what > 1) {
            return NONE;
        }
        closeNow();
        int best = NONE;
        int shortest = NONE;
        for (int minute = 0; minute <= FROM_MOST; minute++) {
            int there = days.arrivalFrom(state, car, minute, closed);
            if (there != NONE && (best == NONE || there - minute < shortest)) {
                best = minute;
                shortest = there - minute;
            }
        }
        return what == 0 ? best : shortest;
    }

    public int closings(int gate, int what) {
        if (!district.gates.isThere(gate) || what < 0 || what > 2) {
            return NONE;
        }
        closeNow();
        if (what == 0) {
            return countClosings(gate);
        }
        int first = firstClosed(closed, gate, 0);
        if (what == 1 || first == NONE) {
            return first;
        }
        return lastOfClosing(gate, first);
    }

    public int keepers() {
        if (!isTold()) {
            return NONE;
        }
        closeNow();
        keepers.count = 0;
        for (int gate = 0; gate < district.gates.count; gate++) {
            if (!callKeepers(gate)) {
                return NONE;
            }
        }
        return keepers.fewest();
    }

    // ---- how late it was

    public int see() {
        int rows = tape.size / SEEN_PARTS;
        boolean good = rows >= 1 && rows <= SEEN_MOST && rows * SEEN_PARTS == tape.size;
        for (int row = 0; good && row < rows; row++) {
            good = isSight(row * SEEN_PARTS);
        }
        if (good) {
            for (int k = 0; k < seen.length; k++) {
                seen[k] = tape.byteAt(k);
            }
            seenCount = rows;
        }
        tape.size = 0;
        return good ? rows : refuse(REFUSED_TEXT);
    }

    public int was(int era, int what) {
        if (!district.eras.isThere(era) || what < 0 || what > 2) {
            return NONE;
        }
        int count = findLates(era);
        if (what == 0) {
            return count;
        }
        if (count == 0) {
            return NONE;
        }
        return what == 1 ? lates[0] : lates[count - 1];
    }

    public int tells(int era, int what) {
        if (!district.eras.isThere(era) || what < 0 || what > 2) {
            return NONE;
        }
        int all = findLates(era);
        countShut(era, all);
        int best = NONE;
        int fewest = all;
        for (int minute = 0; all > 0 && minute < MINUTES; minute++) {
            for (int gate = 0; gate < district.gates.count; gate++) {
                int shut = shutCounts[gate * MINUTES + minute];
                int left = Math.max(shut, all - shut);
                if (best == NONE || left < fewest) {
                    fewest = left;
                    best = minute * GATES_MOST + gate;
                }
            }
        }
        if (best == NONE) {
            return NONE;
        }
        return what == 0 ? best / GATES_MOST : what == 1 ? best % GATES_MOST : fewest;
    }

    // ---- acts

    public boolean put(int gate, int on) {
        if (!district.gates.isThere(gate) || on < 0 || on > 1 || state.isUp(gate) == (on == 1)) {
            refuse(REFUSED_ACT);
            return false;
        }
        remember();
        state.up ^= 1 << gate;
        return true;
    }

    public boolean hold(int era, int late) {
        if (!district.eras.isThere(era) || late < 0 || late > LATE_MOST || state.late[era] == late) {
            refuse(REFUSED_ACT);
            return false;
        }
        remember();
        state.late[era] = late;
        return true;
    }

    public boolean send(int car, int place) {
        if (!district.cars.isThere(car) || !district.places.isThere(place)
                || state.goal[car] == place || state.at[car] == place) {
            refuse(REFUSED_ACT);
            return false;
        }
        remember();
        state.goal[car] = place;
        return true;
    }

    public int days(int n) {
        if (!canPass(n)) {
            return refuse(REFUSED_DAYS);
        }
        remember();
        int waited = 0;
        for (int k = 0; k < n; k++) {
            waited += days.pass(state);
        }
        return waited;
    }

    public int chance(int n) {
        if (!canPass(n)) {
            return refuse(REFUSED_DAYS);
        }
        remember();
        int times = 0;
        for (int k = 0; k < n; k++) {
            if (draw(PIGS_OF) < district.pigs && district.eras.count > 0) {
                times++;
                letPigsOut();
            }
            days.pass(state);
        }
        return times;
    }

    public boolean undo() {
        int latest = (pastNext + UNDO_MOST - 1) % UNDO_MOST;
        if (pastCount == 0 || past[latest] == null) {
            refuse(REFUSED_UNDO);
            return false;
        }
        pastCount--;
        pastNext = latest;
        state.copy(past[latest]);
        return true;
    }

    public boolean seed(int seed) {
        if (seed < 0) {
            refuse(REFUSED_SET);
            return false;
        }
        this.seed = seed;
        return true;
    }

    // ---- questions

    public long ask() {
        int kind = isTold() ? parser.readQuestion() : NONE;
        tape.size = 0;
        if (kind == NONE) {
            return NOTHING;
        }
        closeNow();
        long answer = kind == WORD_FIRST || kind == WORD_LAST ? NONE : 0;
        for (int car = 0; car < district.cars.count; car++) {
            int value = days.answerOf(state, car, closed, parser.question);
            answer = joined(kind, answer, car, value);
        }
        return answer;
    }

    // ---- images, refusals

    public int image() {
        imageSize = 0;
        writePair(state.day);
        for (int gate = 0; gate < district.gates.count; gate++) {
            write(state.isUp(gate) ? 1 : 0);
        }
        for (int era = 0; era < district.eras.count; era++) {
            write(state.late[era]);
        }
        for (int car = 0; car < district.cars.count; car++) {
            write(state.at[car]);
            write(state.goal[car]);
            writePair(state.knows[car]);
        }
        write(imageSum(image, imageSize));
        return imageSize;
    }

    public int octet(int k) {
        return k >= 0 && k < imageSize ? image[k] : NONE;
    }

    public boolean on() {
        boolean good = isTold() && readImage();
        tape.size = 0;
        if (!good) {
            refuse(REFUSED_SET);
            return false;
        }
        state.copy(ahead);
        pastCount = 0;
        return true;
    }

    public int status(int what) {
        return what >= 0 && what < REFUSED_KINDS ? refused[what] : NONE;
    }

    // ---- what the calls above share

    private int refuse(int kind) {
        refused[kind]++;
        return NONE;
    }

    private boolean isTold() {
        return district.miles > 0;
    }

    private static boolean isMinute(int minute) {
        return minute >= 0 && minute < MINUTES;
    }

    private void closeNow() {
        days.line.close(state, state.up, NONE, closed);
    }

    private boolean goesAhead(int n) {
        if (n < 0 || n > AHEAD_MOST || state.day + n > DAY_MOST) {
            return false;
        }
        ahead.copy(state);
        for (int k = 0; k < n; k++) {
            days.pass(ahead);
        }
        return true;
    }

    private boolean canPass(int n) {
        return isTold() && n >= 1 && n <= DAYS_MOST && state.day + n <= DAY_MOST;
    }

    /** Made when first needed and used again: most objects are asked far more often than changed. */
    private void remember() {
        if (past[pastNext] == null) {
            past[pastNext] = new State();
        }
        past[pastNext].copy(state);
        pastNext = (pastNext + 1) % UNDO_MOST;
        pastCount = Math.min(UNDO_MOST, pastCount + 1);
    }

    private int draw(int of) {
        seed = (1103515245 * seed + 12345) & 0x7fffffff;
        return of > 0 ? seed / 64 % of : 0;
    }

    private void letPigsOut() {
        int era = draw(district.eras.count);
        state.late[era] = Math.min(LATE_MOST, state.late[era] + draw(PIGS_LATER));
    }

    private int leastLift(int car, int minute, int count) {
        for (int bits = 0; bits < 1 << district.gates.count; bits++) {
            if (Integer.bitCount(bits) != count || (bits & state.up) != 0) {
                continue;
            }
            days.line.close(state, state.up | bits, NONE, closed);
            int there = days.arrivalFrom(state, car, district.cars.cell(car, CAR_FROM), closed);
            if (there != NONE && there <= minute) {
                return bits;
            }
        }
        return NONE;
    }

    private int countClosings(int gate) {
        int count = 0;
        int first = firstClosed(closed, gate, 0);
        for (int k = 0; k < MINUTES && first != NONE; k++) {
            count++;
            first = firstClosed(closed, gate, lastOfClosing(gate, first) + 1);
        }
        return count;
    }

    private boolean callKeepers(int gate) {
        int mile = district.gates.cell(gate, GATE_MILE);
        int first = firstClosed(closed, gate, 0);
        for (int k = 0; k < MINUTES && first != NONE; k++) {
            int last = lastOfClosing(gate, first);
            if (!keepers.addClosing(first, last, mile)) {
                return false;
            }
            first = firstClosed(closed, gate, last + 1);
        }
        return true;
    }

    private int lastOfClosing(int gate, int first) {
        int over = firstOpen(closed, gate, first);
        return over == NONE ? MINUTES - 1 : over - 1;
    }

    private boolean isSight(int k) {
        return isMinute(tape.byteAt(k)) && district.gates.isThere(tape.byteAt(k + 1)) && isFlag(tape.byteAt(k + 2));
    }

    private static boolean isFlag(int number) {
        return number == 0 || number == 1;
    }

    /** Notes the numbers that are LATE for an ERA; the others alone close GATES as they are. */
    private int findLates(int era) {
        days.line.close(state, state.up, era, closed);
        int count = 0;
        for (int late = 0; late < LATES; late++) {
            if (isAsSeen(days.line.row(era, late))) {
                lates[count] = late;
                count++;
            }
        }
        return count;
    }

    /** Whether all that is SEEN is so, when an ERA shuts GATES by this row. */
    private boolean isAsSeen(long[] row) {
        for (int n = 0; n < seenCount; n++) {
            int minute = seen[n * SEEN_PARTS];
            int gate = seen[n * SEEN_PARTS + 1];
            boolean shut = !state.isUp(gate) && (isMarked(closed, gate, minute) || isMarked(row, gate, minute));
            if (shut != (seen[n * SEEN_PARTS + 2] == 1)) {
                return false;
            }
        }
        return true;
    }

    /** For each GATE and MINUTE, by how many of the numbers noted it is CLOSED. */
    private void countShut(int era, int all) {
        Arrays.fill(shutCounts, 0);
        for (int n = 0; n < all; n++) {
            long[] row = days.line.row(era, lates[n]);
            for (int k = 0; k < row.length && k < closed.length; k++) {
                if (!state.isUp(k / GATE_LONGS)) {
                    countBits(row[k] | closed[k], k);
                }
            }
        }
    }

    private void countBits(long shut, int k) {
        int first = k / GATE_LONGS * MINUTES + k % GATE_LONGS * 64;
        long bits = shut;
        for (int n = 0; n < 64 && bits != 0L; n++) {
            int cell = first + Long.numberOfTrailingZeros(bits);
            if (cell >= 0 && cell < shutCounts.length) {
                shutCounts[cell]++;
            }
            bits &= bits - 1L;
        }
    }

    private static long joined(int kind, long answer, int car, int value) {
        switch (kind) {
            case WORD_FIRST: return value != 0 && answer == NONE ? car : answer;
            case WORD_LAST: return value != 0 ? car : answer;
            case WORD_OFTEN: return value != 0 ? answer + 1 : answer;
            case WORD_TOTAL: return answer + value;
            case WORD_MOST: return car == 0 ? value : Math.max(answer, value);
            default: return car == 0 ? value : Math.min(answer, value);
        }
    }

    private void write(int octet) {
        if (imageSize < image.length) {
            image[imageSize] = octet;
            imageSize++;
        }
    }

    private void writePair(int number) {
        write(number >> 8);
        write(number & 255);
    }

    /** Reads the tape into the state that is at hand for what is ahead, so that a bad image changes nothing. */
    private boolean readImage() {
        int gates = district.gates.count;
        int eras = district.eras.count;
        int cars = district.cars.count;
        int size = 2 + gates + eras + 4 * cars;
        if (tape.size != size + 1 || tape.byteAt(size) != imageSum(tape.bytes, size)) {
            return false;
        }
        ahead.start(district);
        ahead.day = pairAt(0);
        boolean good = ahead.day <= DAY_MOST;
        for (int gate = 0; gate < gates; gate++) {
            int flag = tape.byteAt(2 + gate);
            good = good && isFlag(flag);
            ahead.up |= flag == 1 ? 1 << gate : 0;
        }
        for (int era = 0; era < eras; era++) {
            ahead.late[era] = tape.byteAt(2 + gates + era);
            good = good && ahead.late[era] <= LATE_MOST;
        }
        for (int car = 0; car < cars; car++) {
            good = good && readCarImage(car, 2 + gates + eras + 4 * car);
        }
        return good;
    }

    private boolean readCarImage(int car, int k) {
        ahead.at[car] = tape.byteAt(k);
        ahead.goal[car] = tape.byteAt(k + 1);
        ahead.knows[car] = pairAt(k + 2);
        return district.places.isThere(ahead.at[car]) && district.places.isThere(ahead.goal[car])
                && ahead.at[car] != ahead.goal[car] && ahead.knows[car] <= KNOWS_MOST;
    }

    private int pairAt(int k) {
        return tape.byteAt(k) * 256 + tape.byteAt(k + 1);
    }

    private static int imageSum(int[] bytes, int count) {
        int sum = IMAGE_SUM_START;
        for (int k = 0; k < count && k < bytes.length; k++) {
            sum = (3 * sum + bytes[k]) % IMAGE_SUM_MODULUS;
        }
        return sum;
    }

    // ---- rows of bits: the MINUTES in which GATES are CLOSED

    private static boolean isMarked(long[] bits, int gate, int minute) {
        int k = gate * GATE_LONGS + (minute >> 6);
        return k >= 0 && k < bits.length && (bits[k] >> (minute & 63) & 1L) == 1L;
    }

    private static void mark(long[] bits, int gate, int minute) {
        int k = gate * GATE_LONGS + (minute >> 6);
        if (k >= 0 && k < bits.length) {
            bits[k] |= 1L << (minute & 63);
        }
    }

    private static int firstOpen(long[] bits, int gate, int minute) {
        for (int m = minute; m < MINUTES; m++) {
            if (!isMarked(bits, gate, m)) {
                return m;
            }
        }
        return NONE;
    }

    private static int firstClosed(long[] bits, int gate, int minute) {
        for (int m = minute; m < MINUTES; m++) {
            if (isMarked(bits, gate, m)) {
                return m;
            }
        }
        return NONE;
    }

    /** The bytes that were fed, cut into words, numbers and signs, and a reader that keeps the first FAULT. */
    private static final class Tape {
        private final int[] bytes = new int[TAPE_MOST];
        private int size;
        private final int[] kinds = new int[TAPE_MOST + 1];
        private final int[] starts = new int[TAPE_MOST + 1];
        private final int[] stops = new int[TAPE_MOST + 1];
        private final int[] values = new int[TAPE_MOST + 1];
        private int count;
        private int now;
        private int faultKind;
        private int faultPlace = NONE;

        void append(int number) {
            for (int shift = 24; shift >= 0; shift -= 8) {
                if (size < bytes.length) {
                    bytes[size] = number >>> shift & 255;
                    size++;
                }
            }
        }

        int byteAt(int k) {
            return k >= 0 && k < size && k < bytes.length ? bytes[k] : NONE;
        }

        void startReading() {
            faultKind = 0;
            faultPlace = NONE;
            now = 0;
            count = 0;
            int k = 0;
            for (int n = 0; n < TAPE_MOST && k < size; n++) {
                k = cutToken(k);
            }
            note(TOKEN_END, size, size, NONE);
        }

        /** The reader goes to the end, so that all that is still asked of it fails and every loop stops. */
        void fail(int kind, int at) {
            if (faultKind == 0) {
                faultKind = kind;
                faultPlace = at;
            }
            now = Math.max(0, count - 1);
        }

        boolean isGood() {
            return faultKind == 0;
        }

        /** The first byte of what comes next; the text's length at its end. */
        int place() {
            return starts[now];
        }

        boolean isOver() {
            return kinds[now] == TOKEN_END;
        }

        boolean takesSign(char sign) {
            if (kinds[now] != TOKEN_SIGN || values[now] != sign) {
                return false;
            }
            goOn();
            return true;
        }

        void needSign(char sign) {
            if (!takesSign(sign)) {
                fail(FAULT_TEXT, starts[now]);
            }
        }

        /** The number of the word that comes next; NONE for an unknown one, or when no word comes. */
        int word() {
            return kinds[now] == TOKEN_WORD ? values[now] : NONE;
        }

        boolean takesWord(int word) {
            if (kinds[now] != TOKEN_WORD || values[now] != word) {
                return false;
            }
            goOn();
            return true;
        }

        void needWord(int word) {
            if (!takesWord(word)) {
                fail(FAULT_TEXT, starts[now]);
            }
        }

        boolean isAtNumber() {
            return kinds[now] == TOKEN_NUMBER;
        }

        int number(int least, int most) {
            int start = starts[now];
            int value = values[now];
            if (kinds[now] != TOKEN_NUMBER) {
                fail(FAULT_TEXT, start);
                return least;
            }
            if (stops[now] - start > DIGITS_MOST) {
                fail(FAULT_TEXT, start + DIGITS_MOST);
                return least;
            }
            goOn();
            if (value < least || value > most) {
                fail(FAULT_NUMBER, start);
                return least;
            }
            return value;
        }

        /** A NAME as one number, its letters as six digits of base 27; 0, which is no NAME, with a FAULT. */
        int name() {
            int start = starts[now];
            int stop = stops[now];
            boolean own = values[now] != NONE && values[now] < OWN_WORDS;
            if (kinds[now] != TOKEN_WORD || own) {
                fail(FAULT_TEXT, start);
                return 0;
            }
            if (stop - start > NAME_MOST) {
                fail(FAULT_TEXT, start + NAME_MOST);
                return 0;
            }
            goOn();
            int name = 0;
            for (int k = start; k < start + NAME_MOST; k++) {
                name = name * (LETTERS + 1) + (k < stop ? byteAt(k) - 'a' + 1 : 0);
            }
            return name;
        }

        private void goOn() {
            if (now + 1 < count) {
                now++;
            }
        }

        private int cutToken(int start) {
            int sign = byteAt(start);
            if (sign == ' ' || sign == '\n') {
                return start + 1;
            }
            int stop = runEnd(start, 'a', 'z');
            if (stop > start) {
                note(isGlued(start) ? TOKEN_GLUED : TOKEN_WORD, start, stop, wordBetween(start, stop));
                return stop;
            }
            stop = runEnd(start, '0', '9');
            if (stop > start) {
                note(isGlued(start) ? TOKEN_GLUED : TOKEN_NUMBER, start, stop, valueBetween(start, stop));
                return stop;
            }
            note(TOKEN_SIGN, start, start + 1, sign);
            return start + 1;
        }

        private void note(int kind, int start, int stop, int value) {
            if (count < kinds.length) {
                kinds[count] = kind;
                starts[count] = start;
                stops[count] = stop;
                values[count] = value;
                count++;
            }
        }

        /** Words and numbers side by side need a blank: one without it is nothing that a text goes on with. */
        private boolean isGlued(int start) {
            return count > 0 && kinds[count - 1] != TOKEN_SIGN && stops[count - 1] == start;
        }

        private int runEnd(int start, char least, char most) {
            int k = start;
            while (k < size && byteAt(k) >= least && byteAt(k) <= most) {
                k++;
            }
            return k;
        }

        private int valueBetween(int start, int stop) {
            int value = 0;
            for (int k = start; k < stop && k < start + DIGITS_MOST; k++) {
                value = value * 10 + byteAt(k) - '0';
            }
            return value;
        }

        private int wordBetween(int start, int stop) {
            int word = 0;
            int from = 0;
            for (int k = 0; k < WORDS.length(); k++) {
                if (WORDS.charAt(k) == ' ') {
                    if (k - from == stop - start && isWord(from, start, stop - start)) {
                        return word;
                    }
                    word++;
                    from = k + 1;
                }
            }
            return NONE;
        }

        private boolean isWord(int from, int start, int length) {
            for (int k = 0; k < length && from + k < WORDS.length(); k++) {
                if (WORDS.charAt(from + k) != byteAt(start + k)) {
                    return false;
                }
            }
            return true;
        }
    }

    /** Reads the texts: a DISTRICT, a QUESTION. */
    private static final class Parser {
        private final Tape tape;
        private final Program question = new Program();

        Parser(Tape tape) {
            this.tape = tape;
        }

        int readDistrict(District into) {
            tape.startReading();
            into.clear();
            int statements = 0;
            for (int n = 0; n < STATEMENTS_MOST && !tape.isOver(); n++) {
                readStatement(into, n == 0);
                tape.needSign(';');
                statements++;
            }
            if (statements == 0) {
                tape.fail(FAULT_TEXT, tape.place());
            }
            if (!tape.isOver()) {
                tape.fail(FAULT_MANY, tape.place());
            }
            into.fillIn();
            return tape.isGood() ? statements : NONE;
        }

        /** The word of the QUESTION; its TEST or SUM is then the program question. */
        int readQuestion() {
            tape.startReading();
            question.size = 0;
            int kind = tape.word();
            if (kind < WORD_FIRST) {
                tape.fail(FAULT_TEXT, tape.place());
                return NONE;
            }
            tape.needWord(kind);
            if (kind <= WORD_OFTEN) {
                readTest(question, PARTS_QUESTION, 0);
            } else {
                readSum(question, PARTS_QUESTION, 0);
            }
            if (!tape.isOver()) {
                tape.fail(FAULT_TEXT, tape.place());
            }
            return tape.isGood() ? kind : NONE;
        }

        private void readStatement(District into, boolean first) {
            int at = tape.place();
            int word = tape.word();
            if (word == NONE || first != (word == WORD_DISTRICT)) {
                tape.fail(FAULT_TEXT, at);
                return;
            }
            tape.needWord(word);
            // a second rule has its FAULT by isNew, and what readThing says of it comes too late to count
            if (word == WORD_SHUTS && isNew(into.shuts, at)) {
                readTest(into.shuts, PARTS_SHUTS, 0);
            } else if (word == WORD_LATE && isNew(into.late, at)) {
                readSum(into.late, PARTS_LATE, 0);
            } else if (word == WORD_SEES && isNew(into.sees, at)) {
                readSum(into.sees, PARTS_SEES, 0);
            } else {
                readThing(into, word, at);
            }
        }

        private void readThing(District into, int word, int at) {
            switch (word) {
                case WORD_DISTRICT: into.miles = tape.number(5, 60); break;
                case WORD_GATE: readGate(into, at); break;
                case WORD_PLACE: readPlace(into, at); break;
                case WORD_ROAD: readWay(into, at, false); break;
                case WORD_LANE: readWay(into, at, true); break;
                case WORD_ERA: readEra(into, at); break;
                case WORD_CAR: readCar(into, at); break;
                case WORD_PIGS: into.pigs = tape.number(0, PIGS_OF); break;
                default: tape.fail(FAULT_TEXT, at); break;
            }
        }

        private void readGate(District into, int at) {
            if (isFull(into.gates, at)) {
                return;
            }
            int name = newName(into);
            tape.needWord(WORD_AT);
            into.gates.add(name, tape.number(0, into.miles), 0, 0, 0);
        }

        private void readPlace(District into, int at) {
            if (!isFull(into.places, at)) {
                into.places.add(newName(into), 0, 0, 0, 0);
            }
        }

        private void readWay(District into, int at, boolean over) {
            if (isFull(into.ways, at)) {
                return;
            }
            int from = oldName(into.places, NONE);
            tape.needWord(WORD_TO);
            int to = oldName(into.places, from);
            tape.needWord(WORD_STEPS);
            int steps = tape.number(1, 60);
            int gate = NONE;
            if (over) {
                tape.needWord(WORD_OVER);
                gate = oldName(into.gates, NONE);
            }
            into.ways.add(0, from, to, steps, gate);
        }

        private void readEra(District into, int at) {
            if (isFull(into.eras, at)) {
                return;
            }
            int name = newName(into);
            tape.needWord(WORD_LONG);
            int miles = tape.number(1, 30);
            tape.needWord(WORD_PACE);
            int pace = tape.number(1, 9);
            tape.needWord(WORD_FROM);
            into.eras.add(name, miles, pace, tape.number(0, FROM_MOST), 0);
        }

        private void readCar(District into, int at) {
            if (isFull(into.cars, at)) {
                return;
            }
            int name = newName(into);
            tape.needWord(WORD_AT);
            int place = oldName(into.places, NONE);
            tape.needWord(WORD_TO);
            int goal = oldName(into.places, place);
            tape.needWord(WORD_FROM);
            into.cars.add(name, place, goal, tape.number(0, FROM_MOST), 0);
        }

        private boolean isNew(Program rule, int at) {
            if (rule.size > 0) {
                tape.fail(FAULT_MANY, at);
            }
            return rule.size == 0;
        }

        private boolean isFull(Table table, int at) {
            if (table.count < table.most) {
                return false;
            }
            tape.fail(FAULT_MANY, at);
            return true;
        }

        private int newName(District into) {
            int at = tape.place();
            int name = tape.name();
            if (into.gates.find(name) != NONE || into.places.find(name) != NONE
                    || into.eras.find(name) != NONE || into.cars.find(name) != NONE) {
                tape.fail(FAULT_NAME, at);
            }
            return name;
        }

        /** Which one of the table is named, and is not the other one; NONE with a FAULT. */
        private int oldName(Table table, int other) {
            int at = tape.place();
            int which = table.find(tape.name());
            if (which == NONE || which == other) {
                tape.fail(FAULT_NAME, at);
                return NONE;
            }
            return which;
        }

        private void readTest(Program into, long parts, int open) {
            readBoth(into, parts, open);
            for (int n = 0; n < TAPE_MOST && tape.takesWord(WORD_OR); n++) {
                readBoth(into, parts, open);
                into.add(DO_OR);
            }
        }

        private void readBoth(Program into, long parts, int open) {
            readFact(into, parts, open);
            for (int n = 0; n < TAPE_MOST && tape.takesWord(WORD_AND); n++) {
                readFact(into, parts, open);
                into.add(DO_AND);
            }
        }

        private void readFact(Program into, long parts, int open) {
            int at = tape.place();
            if (tape.takesWord(WORD_NOT)) {
                if (mayOpen(open, at)) {
                    readFact(into, parts, open + 1);
                    into.add(DO_NOT);
                }
            } else if (tape.takesSign('[')) {
                if (mayOpen(open, at)) {
                    readTest(into, parts, open + 1);
                    tape.needSign(']');
                }
            } else if (tape.takesWord(WORD_ALL)) {
                into.add(1);
            } else {
                readSum(into, parts, open);
                int sign = readSign();
                readSum(into, parts, open);
                into.add(sign);
            }
        }

        private int readSign() {
            if (tape.takesSign('<')) {
                return DO_LESS;
            }
            if (tape.takesSign('>')) {
                return DO_MORE;
            }
            tape.needSign('=');
            return DO_SAME;
        }

        private void readSum(Program into, long parts, int open) {
            readProduct(into, parts, open);
            boolean more = true;
            for (int n = 0; n < TAPE_MOST && more; n++) {
                int step = tape.takesSign('+') ? DO_PLUS : tape.takesSign('-') ? DO_MINUS : 0;
                more = step != 0;
                if (more) {
                    readProduct(into, parts, open);
                    into.add(step);
                }
            }
        }

        private void readProduct(Program into, long parts, int open) {
            readPart(into, parts, open);
            boolean more = true;
            for (int n = 0; n < TAPE_MOST && more; n++) {
                int step = tape.takesSign('*') ? DO_TIMES : tape.takesSign('/') ? DO_DIVIDE : 0;
                more = step != 0;
                if (more) {
                    readPart(into, parts, open);
                    into.add(step);
                }
            }
        }

        private void readPart(Program into, long parts, int open) {
            if (tape.isAtNumber()) {
                into.add(tape.number(0, NUMBER_MOST));
                return;
            }
            int at = tape.place();
            if (tape.takesSign('(')) {
                if (mayOpen(open, at)) {
                    readSum(into, parts, open + 1);
                    tape.needSign(')');
                }
                return;
            }
            int word = tape.word();
            boolean part = word != NONE && (parts >> word & 1L) == 1L;
            if (!part && word != WORD_MIN && word != WORD_MAX) {
                tape.fail(FAULT_TEXT, at);
                return;
            }
            tape.needWord(word);
            if (!part) {
                readPair(into, parts, open, word == WORD_MIN ? DO_MIN : DO_MAX);
            } else if (word != WORD_CLOSED && word != WORD_DRIVE) {
                into.add(PART + word);
            } else if (mayOpen(open, at)) {
                readPart(into, parts, open + 1);
                into.add(word == WORD_CLOSED ? DO_CLOSED : DO_DRIVE);
            }
        }

        private void readPair(Program into, long parts, int open, int step) {
            int at = tape.place();
            tape.needSign('(');
            if (mayOpen(open, at)) {
                readSum(into, parts, open + 1);
                tape.needSign(',');
                readSum(into, parts, open + 1);
                tape.needSign(')');
                into.add(step);
            }
        }

        private boolean mayOpen(int open, int at) {
            if (open >= OPEN_MOST) {
                tape.fail(FAULT_OPEN, at);
            }
            return tape.isGood();
        }
    }

    /** A TEST or SUM as steps, operands ahead of what is done with them: no text makes objects. */
    private static final class Program {
        private int[] steps = new int[PROGRAM_FIRST];
        private int size;

        void add(int step) {
            if (size == steps.length && size < TAPE_MOST) {
                steps = Arrays.copyOf(steps, 2 * size);
            }
            if (size < steps.length) {
                steps[size] = step;
                size++;
            }
        }
    }

    /** What the PARTS are worth, and the stack on which a program runs. */
    private static final class Facts {
        private final int[] values = new int[OWN_WORDS];
        private final int[] shut = new int[GATES_MOST];
        private final int[] arrivals = new int[PLACES_MOST];
        private final int[] stack = new int[STACK_MOST];
        private int top;

        int run(Program program) {
            top = 0;
            for (int k = 0; k < program.size; k++) {
                int step = program.steps[k];
                if (step >= PART) {
                    push(valueAt(values, step - PART, 0));
                } else if (step >= 0) {
                    push(step);
                } else if (step == DO_NOT) {
                    push(pop() == 0 ? 1 : 0);
                } else if (step == DO_CLOSED) {
                    push(valueAt(shut, pop(), 0));
                } else if (step == DO_DRIVE) {
                    push(valueAt(arrivals, pop(), NONE));
                } else {
                    int right = pop();
                    push(two(step, pop(), right));
                }
            }
            return pop();
        }

        private void push(int value) {
            if (top < stack.length) {
                stack[top] = value;
                top++;
            }
        }

        private int pop() {
            if (top <= 0) {
                return 0;
            }
            top--;
            return stack[top];
        }

        private static int two(int step, int left, int right) {
            switch (step) {
                case DO_OR: return left | right;
                case DO_AND: return left & right;
                case DO_LESS: return left < right ? 1 : 0;
                case DO_MORE: return left > right ? 1 : 0;
                case DO_SAME: return left == right ? 1 : 0;
                case DO_PLUS: return bounded(left + right);
                case DO_MINUS: return bounded(left - right);
                case DO_TIMES: return bounded((long) left * right);
                case DO_DIVIDE: return right == 0 ? 0 : Math.floorDiv(left, right);
                case DO_MIN: return left < right ? left : right;
                default: return left > right ? left : right;
            }
        }

        private static int bounded(long value) {
            return value > SUM_MOST ? SUM_MOST : value < -SUM_MOST ? -SUM_MOST : (int) value;
        }

        private static int valueAt(int[] row, int k, int without) {
            return k >= 0 && k < row.length ? row[k] : without;
        }
    }

    /** Named things of one sort, with some numbers each. */
    private static final class Table {
        private final int most;
        private final int[] names;
        private final int[] cells;
        private int count;

        Table(int most) {
            this.most = most;
            names = new int[most];
            cells = new int[most * COLUMNS];
        }

        void add(int name, int a, int b, int c, int d) {
            if (count < most) {
                names[count] = name;
                cells[count * COLUMNS] = a;
                cells[count * COLUMNS + 1] = b;
                cells[count * COLUMNS + 2] = c;
                cells[count * COLUMNS + 3] = d;
                count++;
            }
        }

        boolean isThere(int which) {
            return which >= 0 && which < count;
        }

        int cell(int which, int column) {
            boolean there = which >= 0 && which < count && column >= 0 && column < COLUMNS;
            return there ? cells[which * COLUMNS + column] : NONE;
        }

        int find(int name) {
            for (int k = 0; k < count; k++) {
                if (names[k] == name) {
                    return k;
                }
            }
            return NONE;
        }

        int letterOf(int which, int k) {
            if (!isThere(which) || k < 0 || k >= NAME_MOST) {
                return NONE;
            }
            int name = names[which];
            for (int behind = NAME_MOST - 1; behind > k; behind--) {
                name /= LETTERS + 1;
            }
            return name % (LETTERS + 1);
        }
    }

    /** A DISTRICT as its text tells it; what changes is in a State. Without a text it has no miles. */
    private static final class District {
        private int miles;
        private final Table gates = new Table(GATES_MOST);
        private final Table places = new Table(PLACES_MOST);
        private final Table ways = new Table(WAYS_MOST);
        private final Table eras = new Table(ERAS_MOST);
        private final Table cars = new Table(CARS_MOST);
        private final Program shuts = new Program();
        private final Program late = new Program();
        private final Program sees = new Program();
        private int pigs;

        void clear() {
            miles = 0;
            gates.count = 0;
            places.count = 0;
            ways.count = 0;
            eras.count = 0;
            cars.count = 0;
            shuts.size = 0;
            late.size = 0;
            sees.size = 0;
            pigs = 0;
        }

        /** What holds of shuts, late and sees without a STATEMENT of them. */
        void fillIn() {
            if (shuts.size == 0) {
                shuts.add(PART + WORD_AHEAD);
                shuts.add(3);
                shuts.add(DO_LESS);
                shuts.add(PART + WORD_BEHIND);
                shuts.add(1);
                shuts.add(DO_LESS);
                shuts.add(DO_AND);
            }
            if (late.size == 0) {
                late.add(PART + WORD_LATE);
            }
            if (sees.size == 0) {
                sees.add(PART + WORD_WAITS);
            }
        }
    }

    /** All that DAYS and other ACTS change, but for the seed, which no undo brings back. */
    private static final class State {
        private int day;
        private int up;
        private final int[] late = new int[ERAS_MOST];
        private final int[] at = new int[CARS_MOST];
        private final int[] goal = new int[CARS_MOST];
        private final int[] knows = new int[CARS_MOST];
        private final int[] kept = new int[KEPT_MOST * KEPT_PARTS];
        private int keptCount;

        void start(District district) {
            day = 0;
            up = 0;
            keptCount = 0;
            Arrays.fill(late, 0);
            Arrays.fill(knows, 0);
            for (int car = 0; car < CARS_MOST; car++) {
                at[car] = district.cars.cell(car, CAR_AT);
                goal[car] = district.cars.cell(car, CAR_TO);
            }
        }

        void copy(State from) {
            day = from.day;
            up = from.up;
            System.arraycopy(from.late, 0, late, 0, ERAS_MOST);
            System.arraycopy(from.at, 0, at, 0, CARS_MOST);
            System.arraycopy(from.goal, 0, goal, 0, CARS_MOST);
            System.arraycopy(from.knows, 0, knows, 0, CARS_MOST);
            System.arraycopy(from.kept, 0, kept, 0, KEPT_MOST * KEPT_PARTS);
            keptCount = from.keptCount;
        }

        boolean isUp(int gate) {
            return (up >> gate & 1) == 1;
        }

        void keep(int waited, int towed) {
            if (keptCount == KEPT_MOST) {
                System.arraycopy(kept, KEPT_PARTS, kept, 0, (KEPT_MOST - 1) * KEPT_PARTS);
                keptCount--;
            }
            kept[keptCount * KEPT_PARTS] = day;
            kept[keptCount * KEPT_PARTS + 1] = waited;
            kept[keptCount * KEPT_PARTS + 2] = towed;
            keptCount++;
        }
    }

    /** Where ERAS are, and which GATES they shut. */
    private static final class Line {
        private final Facts facts;
        private District district;
        /** A row of bits for each ERA and each lateness, marked when first asked: the text alone decides it. */
        private final long[][] rows = new long[ERAS_MOST * LATES][];
        private final int[] marked = new int[ERAS_MOST * LATES];
        private final long[] empty = new long[ROW];

        Line(Facts facts, District district) {
            this.facts = facts;
            this.district = district;
        }

        void take(District next) {
            district = next;
            Arrays.fill(marked, 0);
        }

        /** The HEAD of an ERA that is so late; NONE when it is not ON the line. */
        int headOf(int era, int late, int minute) {
            int since = minute - district.eras.cell(era, ERA_FROM) - late;
            int head = since * district.eras.cell(era, ERA_PACE);
            boolean on = since >= 0 && head - district.eras.cell(era, ERA_LONG) <= district.miles;
            return on ? head : NONE;
        }

        /** Marks when each GATE that is not up is CLOSED by the ERAS, one of which may be left out. */
        void close(State state, int up, int without, long[] into) {
            Arrays.fill(into, 0L);
            for (int era = 0; era < district.eras.count; era++) {
                if (era != without) {
                    long[] row = row(era, state.late[era]);
                    for (int k = 0; k < row.length && k < into.length; k++) {
                        into[k] |= row[k];
                    }
                }
            }
            for (int k = 0; k < into.length; k++) {
                if ((up >> k / GATE_LONGS & 1) == 1) {
                    into[k] = 0L;
                }
            }
        }

        /** When an ERA that is so late shuts which GATES, were they all down. */
        long[] row(int era, int late) {
            int which = era * LATES + late;
            if (era < 0 || late < 0 || late >= LATES || which >= rows.length) {
                return empty;
            }
            if (rows[which] == null) {
                rows[which] = new long[ROW];
            }
            long[] row = rows[which];
            if (marked[which] == 1) {
                return row;
            }
            marked[which] = 1;
            Arrays.fill(row, 0L);
            for (int minute = 0; minute < MINUTES; minute++) {
                int head = headOf(era, late, minute);
                for (int gate = 0; head != NONE && gate < district.gates.count; gate++) {
                    setFacts(era, gate, head, minute);
                    if (facts.run(district.shuts) != 0) {
                        mark(row, gate, minute);
                    }
                }
            }
            return row;
        }

        private void setFacts(int era, int gate, int head, int minute) {
            int mile = district.gates.cell(gate, GATE_MILE);
            int miles = district.eras.cell(era, ERA_LONG);
            facts.values[WORD_AHEAD] = mile - head;
            facts.values[WORD_BEHIND] = head - miles - mile;
            facts.values[WORD_LONG] = miles;
            facts.values[WORD_PACE] = district.eras.cell(era, ERA_PACE);
            facts.values[WORD_MINUTE] = minute;
        }
    }

    /** The soonest DRIVES from a PLACE. */
    private static final class Roads {
        private final int[] soonest = new int[PLACES_MOST];
        private District district;

        Roads(District district) {
            this.district = district;
        }

        /** Settles PLACES by when they are reached: one may wait, so that being there sooner is never worse. */
        void go(int from, int minute, long[] closed) {
            Arrays.fill(soonest, MINUTES);
            if (!district.places.isThere(from)) {
                return;
            }
            soonest[from] = minute;
            int settled = 0;
            for (int n = 0; n < PLACES_MOST; n++) {
                int place = nearest(settled);
                if (place == NONE) {
                    return;
                }
                settled |= 1 << place;
                for (int way = 0; way < district.ways.count; way++) {
                    reach(otherEnd(way, place), way, soonest[place], closed);
                }
            }
        }

        int arrival(int place) {
            boolean there = place >= 0 && place < PLACES_MOST && soonest[place] < MINUTES;
            return there ? soonest[place] : NONE;
        }

        private int nearest(int settled) {
            int best = NONE;
            for (int place = 0; place < PLACES_MOST; place++) {
                boolean open = (settled >> place & 1) == 0 && soonest[place] < MINUTES;
                if (open && (best == NONE || soonest[place] < soonest[best])) {
                    best = place;
                }
            }
            return best;
        }

        /** NONE when the way does not touch the PLACE. */
        private int otherEnd(int way, int place) {
            int from = district.ways.cell(way, WAY_FROM);
            int to = district.ways.cell(way, WAY_TO);
            return from == place ? to : to == place ? from : NONE;
        }

        private void reach(int place, int way, int minute, long[] closed) {
            if (place < 0 || place >= PLACES_MOST) {
                return;
            }
            int gate = district.ways.cell(way, WAY_GATE);
            int start = gate == NONE ? minute : firstOpen(closed, gate, minute);
            int there = start + district.ways.cell(way, WAY_STEPS);
            if (start != NONE && there < soonest[place]) {
                soonest[place] = there;
            }
        }
    }

    /** What a DAY does to a State, and what CARS meet in it. */
    private static final class Days {
        private final Facts facts = new Facts();
        private final Line line;
        private final Roads roads;
        private District district;
        private final long[] shut = new long[ROW];
        private final long[] allUp = new long[ROW];
        private final int[] waited = new int[CARS_MOST];

        Days(District district) {
            this.district = district;
            line = new Line(facts, district);
            roads = new Roads(district);
        }

        void take(District next) {
            district = next;
            roads.district = next;
            line.take(next);
        }

        int arrivalFrom(State state, int car, int minute, long[] closed) {
            roads.go(state.at[car], minute, closed);
            return roads.arrival(state.goal[car]);
        }

        int waitOf(State state, int car, long[] closed) {
            int minute = district.cars.cell(car, CAR_FROM);
            roads.go(state.at[car], minute, allUp);
            int soonest = roads.arrival(state.goal[car]);
            roads.go(state.at[car], minute, closed);
            int there = roads.arrival(state.goal[car]);
            return there == NONE ? NONE : there - soonest;
        }

        /** One DAY: how many MINUTES all CARS waited. */
        int pass(State state) {
            line.close(state, state.up, NONE, shut);
            int all = 0;
            int towed = 0;
            for (int car = 0; car < district.cars.count; car++) {
                waited[car] = waitOf(state, car, shut);
                all += Math.max(0, waited[car]);
                towed += waited[car] == NONE ? 1 : 0;
            }
            facts.values[WORD_DAY] = state.day;
            for (int car = 0; car < district.cars.count; car++) {
                if (waited[car] != NONE) {
                    bringCar(state, car);
                }
            }
            state.keep(all, towed);
            delayEras(state, all);
            state.day++;
            return all;
        }

        int answerOf(State state, int car, long[] closed, Program question) {
            int minute = district.cars.cell(car, CAR_FROM);
            facts.values[WORD_WAITS] = waitOf(state, car, closed);
            facts.values[WORD_NUMBER] = car;
            facts.values[WORD_AT] = state.at[car];
            facts.values[WORD_TO] = state.goal[car];
            facts.values[WORD_FROM] = minute;
            facts.values[WORD_KNOWS] = state.knows[car];
            facts.values[WORD_DAY] = state.day;
            for (int gate = 0; gate < GATES_MOST; gate++) {
                facts.shut[gate] = isMarked(closed, gate, minute) ? 1 : 0;
            }
            roads.go(state.at[car], minute, closed);
            for (int place = 0; place < PLACES_MOST; place++) {
                facts.arrivals[place] = roads.arrival(place);
            }
            return facts.run(question);
        }

        private void bringCar(State state, int car) {
            facts.values[WORD_WAITS] = waited[car];
            facts.values[WORD_KNOWS] = state.knows[car];
            int knows = state.knows[car] + facts.run(district.sees);
            state.knows[car] = Math.max(0, Math.min(KNOWS_MOST, knows));
            int place = state.at[car];
            state.at[car] = state.goal[car];
            state.goal[car] = place;
        }

        private void delayEras(State state, int all) {
            facts.values[WORD_WAITS] = all;
            for (int era = 0; era < district.eras.count; era++) {
                facts.values[WORD_LATE] = state.late[era];
                facts.values[WORD_LONG] = district.eras.cell(era, ERA_LONG);
                facts.values[WORD_PACE] = district.eras.cell(era, ERA_PACE);
                state.late[era] = Math.max(0, Math.min(LATE_MOST, facts.run(district.late)));
            }
        }
    }

    /** The fewest KEEPERS: each CLOSING needs one, but for those to which a KEEPER can go from another. */
    private static final class Keepers {
        private final int[] first = new int[CLOSINGS_MOST];
        private final int[] last = new int[CLOSINGS_MOST];
        private final int[] mile = new int[CLOSINGS_MOST];
        /** From which CLOSING the KEEPER comes; NONE when from none. */
        private final int[] before = new int[CLOSINGS_MOST];
        private final int[] tried = new int[CLOSINGS_MOST];
        private int count;

        boolean addClosing(int from, int to, int at) {
            if (count >= CLOSINGS_MOST) {
                return false;
            }
            first[count] = from;
            last[count] = to;
            mile[count] = at;
            count++;
            return true;
        }

        int fewest() {
            Arrays.fill(before, NONE);
            int needed = count;
            for (int closing = 0; closing < count; closing++) {
                Arrays.fill(tried, 0);
                if (goesOn(closing, 0)) {
                    needed--;
                }
            }
            return needed;
        }

        private boolean goesOn(int closing, int depth) {
            if (depth >= CLOSINGS_MOST || closing < 0 || closing >= CLOSINGS_MOST) {
                return false;
            }
            for (int next = 0; next < count; next++) {
                if (tried[next] == 0 && canGo(closing, next)) {
                    tried[next] = 1;
                    if (before[next] == NONE || goesOn(before[next], depth + 1)) {
                        before[next] = closing;
                        return true;
                    }
                }
            }
            return false;
        }

        private boolean canGo(int from, int to) {
            return first[to] >= last[from] + 1 + Math.abs(mile[from] - mile[to]);
        }
    }
}
