import java.util.Arrays;

/** A house for a mission; the document's numbered promises say what each call answers. */
public final class MissionHouse {
    public static final int NONE = -1;
    public static final int STATE = -3;
    public static final int FULL = -4;

    private static final int BAD = -2;
    private static final int WRONG = -1000;
    private static final int PROGRAMS = 8;
    private static final int LINES = 30;
    private static final int LOADS = 8;
    private static final int MODES = 4;
    private static final int DEGREES = 3600;
    private static final int LONGEST_PACKET = 9;
    /** Bytes of a PACKET ahead of its data; the last of them tells how many data there are. */
    private static final int PACKET_HEAD = 5;
    private static final int FRAME_BYTES = 24;
    private static final int FRAME_DATA = 18;
    private static final int FRAME_HEAD = 4;
    private static final int NO_FIRST = 255;

    private final Tape tape;
    /** A text is read here first, since a WRONG one must change nothing. */
    private final Lines reading;
    private final int[] outBytes;
    private int outSize;
    private final Calendar calendar;
    private final Orbit course;
    private final Power supply;
    private final Memory memory;
    private final Link link;
    private final Board board;
    private final Ground control;
    private final Passes passes;
    private final Sky sky;

    public MissionHouse() {
        tape = new Tape();
        reading = new Lines(LINES);
        outBytes = new int[Sky.FIELDS];
        outSize = 0;
        calendar = new Calendar();
        course = new Orbit();
        supply = new Power();
        memory = new Memory();
        link = new Link();
        board = new Board(course, supply, memory, link);
        control = new Ground();
        passes = new Passes();
        sky = new Sky();
    }

    public int feed(int a, int b, int c, int d, int e) {
        if (tape.size + 20 > Tape.MOST) {
            return FULL;
        }
        tape.append(a);
        tape.append(b);
        tape.append(c);
        tape.append(d);
        tape.append(e);
        return tape.size;
    }

    public int end(int n) {
        if (!within(n, 0, tape.size)) {
            return NONE;
        }
        tape.size = n;
        return n;
    }

    public int out(int i) {
        return within(i, 0, outSize - 1) ? outBytes[i] : NONE;
    }

    // ---- times

    public int leap(int year, int month) {
        if (!within(year, Calendar.FIRST_YEAR, Calendar.LAST_YEAR) || (month != 6 && month != 12)) {
            return NONE;
        }
        return calendar.addLeap(year, month);
    }

    public int date() {
        tape.open();
        int second = calendar.readDate(tape);
        return tape.closes() ? second : tape.wrong();
    }

    public int written(int second) {
        if (!calendar.hasSecond(second)) {
            return NONE;
        }
        outSize = calendar.writeDate(second, outBytes);
        return outSize;
    }

    // ---- the ship

    public int orbit(int period, int phase, int shade, int width) {
        if (!within(period, 60, 20000) || !isDegree(phase) || !isDegree(shade) || !within(width, 0, DEGREES)) {
            return NONE;
        }
        course.period = period;
        course.phase = phase;
        course.shade = shade;
        course.width = width;
        return 1;
    }

    public int station(int station, int from, int width, int drift) {
        if (!isStation(station) || !isDegree(from) || !within(width, 0, DEGREES) || !isDegree(drift)) {
            return NONE;
        }
        course.arcFrom[station] = from;
        course.arcWidth[station] = width;
        course.arcDrift[station] = drift;
        return 1;
    }

    public int sight(int station, boolean behind) {
        return isStation(station) ? course.firstSight(station, board.clock, !behind) : NONE;
    }

    public int power(int capacity, int sun) {
        if (!within(capacity, 0, 1000000) || !within(sun, 0, 10000)) {
            return NONE;
        }
        supply.capacity = capacity;
        supply.battery = Math.min(supply.battery, capacity);
        supply.sun = sun;
        return 1;
    }

    public int load(int load, int units, int rank) {
        if (!isLoad(load) || !within(units, 0, 1000) || !within(rank, 0, 9)) {
            return NONE;
        }
        supply.units[load] = units;
        supply.rank[load] = rank;
        supply.putInOrder();
        return 1;
    }

    public int program(int k) {
        if (!isProgram(k)) {
            return NONE;
        }
        int lines = reading.readProgram(tape);
        if (!tape.closes()) {
            return tape.wrong();
        }
        board.install(k, reading, 0);
        return lines;
    }

    public int due(int second, int program) {
        if (!isProgram(program) || second <= board.clock) {
            return NONE;
        }
        return board.addDue(second, program);
    }

    public int mode(int mode, int loads, int programs) {
        if (!within(mode, 0, MODES - 1) || !within(loads, 0, 255) || !within(programs, 0, 255)) {
            return NONE;
        }
        board.modeRows[mode] = loads;
        board.modeRows[MODES + mode] = programs;
        return 1;
    }

    public int monitor(int k, int n, int act) {
        if (!within(k, 0, Board.MONITORS - 1) || !within(n, 1, 99) || !within(act, 0, Board.ACT_SAFE)) {
            return NONE;
        }
        boolean set = tape.size > 0;
        reading.readMonitor(tape);
        if (!tape.closes()) {
            return tape.wrong();
        }
        board.setMonitor(k, n, act, set ? reading : null);
        return 1;
    }

    public int flip(int word, int bit) {
        if (!isWord(word) || !within(bit, 0, Memory.BITS - 1)) {
            return NONE;
        }
        memory.words[word] ^= 1 << bit;
        return memory.words[word];
    }

    public int tick(int n) {
        if (!within(n, 0, 500)) {
            return NONE;
        }
        for (int i = 0; i < n; i++) {
            board.doSecond();
        }
        return board.clock;
    }

    public int ship(int what) {
        switch (what) {
            case 0: return board.clock;
            case 1: return course.angle(board.clock);
            case 2: return bit(course.isInShadow(board.clock));
            case 3: return supply.battery;
            case 4: return supply.used;
            case 5: return board.mode;
            case 6: return board.events;
            case 7: return memory.mended;
            case 8: return memory.lost;
            case 9: return link.recordedBytes;
            case 10: return link.recordedPackets();
            case 11: return link.awaited;
            case 12: return link.flags;
            case 13: return board.dueCount;
            case 14: return link.waiting;
            default: return NONE;
        }
    }

    public int served(int load, int what) {
        if (!isLoad(load) || !within(what, 0, 1)) {
            return NONE;
        }
        return bit(what == 0 ? supply.on[load] : supply.isServed[load]);
    }

    public int runs(int program, int what) {
        if (!isProgram(program)) {
            return NONE;
        }
        switch (what) {
            case 0: return board.programs.countFrom(program * LINES);
            case 1: return bit(board.next[program] != NONE);
            case 2: return board.next[program];
            case 3: return board.waits[program];
            default: return NONE;
        }
    }

    public int word(int word, int what) {
        if (!isWord(word) || !within(what, 0, 1)) {
            return NONE;
        }
        return what == 0 ? memory.words[word] : memory.byteOf(word);
    }

    // ---- the ground

    public int noise(int i, int x) {
        if (link.waiting == 0 || !within(i, 0, FRAME_BYTES - 1)) {
            return NONE;
        }
        int at = link.oldestFrame() + i;
        link.frames[at] ^= x & 255;
        return link.frames[at];
    }

    public int lose() {
        if (link.waiting == 0) {
            return NONE;
        }
        link.dropFrame();
        return link.waiting;
    }

    public int receive() {
        if (link.waiting == 0) {
            return NONE;
        }
        int whole = control.takeFrame(link.frames, link.oldestFrame());
        link.dropFrame();
        return whole;
    }

    public int packet(int i) {
        if (!within(i, 0, control.archived - 1)) {
            return NONE;
        }
        outSize = control.writePacket(i, outBytes);
        return outSize;
    }

    public int command() {
        if (control.isFull()) {
            return FULL;
        }
        reading.readCommand(tape);
        if (!tape.closes()) {
            return tape.wrong();
        }
        return control.keep(reading);
    }

    public int send(int how) {
        if (!within(how, 0, 2) || control.toSend() == 0 || !course.isSeen(board.clock)) {
            return NONE;
        }
        int number = control.nextToSend();
        int row = control.sent;
        control.sent++;
        boolean accepted = how != 1 && board.takeCommand(number, control.kept, row);
        if (how == 2) {
            board.takeCommand(number, control.kept, row);
        }
        return bit(accepted);
    }

    public int ground(int what) {
        switch (what) {
            case 0: return control.gaps;
            case 1: return control.bad;
            case 2: return control.archived;
            case 3: return control.keptCount;
            case 4: return control.toSend();
            case 5: return control.nextNumber;
            default: return NONE;
        }
    }

    // ---- passes, ways

    public int pass(int station, int from, int to, int worth) {
        if (!isStation(station) || !within(from, 0, 99999) || !within(to, 0, 99999) || to <= from || !within(worth, 1, 99)) {
            return NONE;
        }
        return passes.add(station, from, to, worth);
    }

    public int gap(int g) {
        if (!within(g, 0, 999)) {
            return NONE;
        }
        int before = passes.gap;
        passes.gap = g;
        passes.isChosen = false;
        return before;
    }

    public int clear() {
        int before = passes.count;
        passes.count = 0;
        passes.isChosen = false;
        return before;
    }

    public int best(int what) {
        passes.choose();
        if (what == 100) {
            return passes.bestWorth;
        }
        if (what == 101) {
            return Integer.bitCount(passes.best);
        }
        return within(what, 0, passes.count - 1) ? passes.best >> what & 1 : NONE;
    }

    public int bar(int column, int row, boolean barred) {
        if (!isField(column, row)) {
            return NONE;
        }
        int field = row * Sky.COLUMNS + column;
        int before = bit(sky.barred[field]);
        sky.barred[field] = barred;
        return before;
    }

    public int way(int column, int row, int toColumn, int toRow) {
        if (!isField(column, row) || !isField(toColumn, toRow)) {
            return NONE;
        }
        int from = row * Sky.COLUMNS + column;
        int turns = sky.turnsTo(from, toRow * Sky.COLUMNS + toColumn);
        if (turns == NONE) {
            return NONE;
        }
        sky.writeTurns(from, turns, outBytes);
        outSize = turns;
        return turns;
    }

    private static boolean within(int x, int low, int high) {
        return x >= low && x <= high;
    }

    private static int bit(boolean is) {
        return is ? 1 : 0;
    }

    private static boolean isDegree(int x) {
        return within(x, 0, DEGREES - 1);
    }

    private static boolean isStation(int x) {
        return within(x, 0, Orbit.STATIONS - 1);
    }

    private static boolean isLoad(int x) {
        return within(x, 0, LOADS - 1);
    }

    private static boolean isProgram(int x) {
        return within(x, 0, PROGRAMS - 1);
    }

    private static boolean isWord(int x) {
        return within(x, 0, Memory.WORDS - 1);
    }

    private static boolean isField(int column, int row) {
        return within(column, 0, Sky.COLUMNS - 1) && within(row, 0, Sky.ROWS - 1);
    }

    /**
     * THE TAPE and the reading of a text on it. The first fault stays: all reading behind it
     * does nothing, so that readers need not ask after every step.
     */
    private static final class Tape {
        static final int MOST = 1600;
        private static final int MOST_DIGITS = 9;

        final int[] bytes = new int[MOST];
        int size;
        int at;
        int fault = NONE;

        void append(int four) {
            for (int shift = 24; shift >= 0 && size < MOST; shift -= 8) {
                bytes[size] = four >>> shift & 255;
                size++;
            }
        }

        void open() {
            at = 0;
            fault = NONE;
        }

        boolean isRight() {
            return fault == NONE;
        }

        boolean isAtEnd() {
            return at >= size;
        }

        /** Ends a text: the tape is empty behind it, whatever the call answers. */
        boolean closes() {
            if (isRight() && !isAtEnd()) {
                fault = at;
            }
            size = 0;
            return isRight();
        }

        int wrong() {
            return WRONG - fault;
        }

        private int byteAt(int i) {
            return i >= 0 && i < size ? bytes[i] : NONE;
        }

        private static boolean isDigit(int b) {
            return b >= '0' && b <= '9';
        }

        private static boolean isLetter(int b) {
            return b >= 'a' && b <= 'z';
        }

        void skip(int sign) {
            if (isRight()) {
                if (byteAt(at) == sign) {
                    at++;
                } else {
                    fault = at;
                }
            }
        }

        /** Just so many digits; the least value stands for a wrong one, so that it can still be counted with. */
        int fixed(int digits, int low, int high) {
            int from = at;
            int value = 0;
            for (int i = 0; i < digits && isRight(); i++) {
                if (isDigit(byteAt(at))) {
                    value = value * 10 + byteAt(at) - '0';
                    at++;
                } else {
                    fault = at;
                }
            }
            return inRange(value, low, high, from);
        }

        int number(int low, int high) {
            int from = at;
            return inRange(digits(), low, high, from);
        }

        int integer(int low, int high) {
            int from = at;
            if (byteAt(at) != '-') {
                return inRange(digits(), low, high, from);
            }
            if (isRight()) {
                at++;
                if (byteAt(at) == '0') {
                    fault = at;
                }
            }
            return inRange(-digits(), low, high, from);
        }

        private int digits() {
            int from = at;
            int value = 0;
            for (int i = 0; i <= MOST_DIGITS && isRight() && isDigit(byteAt(at)); i++) {
                if (i == MOST_DIGITS || (i == 1 && byteAt(from) == '0')) {
                    fault = at;
                } else {
                    value = value * 10 + byteAt(at) - '0';
                    at++;
                }
            }
            if (isRight() && at == from) {
                fault = at;
            }
            return value;
        }

        private int inRange(int value, int low, int high, int from) {
            if (isRight() && !within(value, low, high)) {
                fault = from;
            }
            return isRight() ? value : low;
        }

        /** A sign of a CONDITION. */
        int compareSign() {
            int sign = byteAt(at);
            if (isRight()) {
                if (sign == '=' || sign == '<' || sign == '>') {
                    at++;
                } else {
                    fault = at;
                }
            }
            return sign;
        }

        /** The WORD that stands there, as its number among those of Lines; it must be one from first to last. */
        int told(int first, int last) {
            if (!isRight()) {
                return first;
            }
            int to = wordEnd();
            for (int word = first; word <= last; word++) {
                if (reads(Lines.text(word), to)) {
                    at = to;
                    return word;
                }
            }
            fault = at;
            return first;
        }

        private int wordEnd() {
            int to = at;
            if (isLetter(byteAt(to))) {
                while (to < size && (isLetter(byteAt(to)) || isDigit(byteAt(to)))) {
                    to++;
                }
            }
            return to;
        }

        private boolean reads(String text, int to) {
            if (text.length() != to - at) {
                return false;
            }
            for (int i = 0; i < text.length(); i++) {
                if (byteAt(at + i) != text.charAt(i)) {
                    return false;
                }
            }
            return true;
        }
    }

    /** Rows of lines of Part VI, of PROGRAMS, DRAFTS, commands, and the CONDITIONS of MONITORS. */
    private static final class Lines {
        static final int NO_LINE = 0;
        static final int WAIT = 1;
        static final int UNTIL = 2;
        static final int IF = 3;
        static final int GO = 4;
        static final int END = 5;
        // from here on they may be commands, too
        static final int ON = 6;
        static final int OFF = 7;
        static final int SET = 8;
        static final int ADD = 9;
        static final int EMIT = 10;
        static final int MODE = 11;
        static final int RUN = 12;
        static final int KILL = 13;
        // these are commands alone
        static final int LINE = 14;
        static final int READY = 15;
        static final int BAT = 16;
        static final int SUN = 17;
        static final int USED = 18;
        static final int MODE_NOW = 19;
        static final int REC = 20;
        static final int FIX = 21;
        static final int EV = 22;
        static final int TURN = 23;
        static final int SEEN = 24;
        static final int V0 = 25;
        static final int V7 = 32;

        private final int rows;
        final int[] verb;
        final int[] thing;
        final int[] sign;
        final int[] value;
        final int[] target;
        /** The row of the DRAFTS to which a command brings its line; NONE if it is done at once. */
        final int[] draftRow;

        Lines(int rows) {
            this.rows = rows;
            verb = new int[rows];
            thing = new int[rows];
            sign = new int[rows];
            value = new int[rows];
            target = new int[rows];
            draftRow = new int[rows];
        }

        static String text(int word) {
            switch (word) {
                case WAIT: return "wait";
                case UNTIL: return "until";
                case IF: return "if";
                case GO: return "go";
                case END: return "end";
                case ON: return "on";
                case OFF: return "off";
                case SET: return "set";
                case ADD: return "add";
                case EMIT: return "emit";
                case MODE: return "mode";
                case RUN: return "run";
                case KILL: return "kill";
                case LINE: return "line";
                case READY: return "ready";
                default: return thingText(word);
            }
        }

        private static String thingText(int word) {
            switch (word) {
                case BAT: return "bat";
                case SUN: return "sun";
                case USED: return "used";
                case MODE_NOW: return "mode";
                case REC: return "rec";
                case FIX: return "fix";
                case EV: return "ev";
                case TURN: return "turn";
                case SEEN: return "seen";
                case V0: return "v0";
                case V0 + 1: return "v1";
                case V0 + 2: return "v2";
                case V0 + 3: return "v3";
                case V0 + 4: return "v4";
                case V0 + 5: return "v5";
                case V0 + 6: return "v6";
                case V7: return "v7";
                default: return "";
            }
        }

        boolean isThere(int row) {
            return within(row, 0, rows - 1) && verb[row] != NO_LINE;
        }

        int countFrom(int row) {
            int count = 0;
            while (count < LINES && isThere(row + count)) {
                count++;
            }
            return count;
        }

        void erase(int from, int to) {
            for (int row = from; row < to; row++) {
                verb[row] = NO_LINE;
            }
        }

        void copy(int row, Lines other, int otherRow) {
            verb[row] = other.verb[otherRow];
            thing[row] = other.thing[otherRow];
            sign[row] = other.sign[otherRow];
            value[row] = other.value[otherRow];
            target[row] = other.target[otherRow];
            draftRow[row] = other.draftRow[otherRow];
        }

        int readProgram(Tape tape) {
            tape.open();
            erase(0, rows);
            int count = 0;
            while (count < rows && tape.isRight() && (count == 0 || !tape.isAtEnd())) {
                readLine(tape, count);
                tape.skip('\n');
                count++;
            }
            return count;
        }

        void readCommand(Tape tape) {
            tape.open();
            int first = tape.told(ON, READY);
            if (first == LINE) {
                tape.skip(' ');
                int k = tape.number(0, PROGRAMS - 1);
                tape.skip(' ');
                draftRow[0] = k * LINES + tape.number(0, LINES - 1);
                tape.skip(' ');
                readLine(tape, 0);
            } else {
                draftRow[0] = NONE;
                readRest(tape, 0, first);
            }
        }

        /** An empty tape is right, too: it unsets the MONITOR. */
        void readMonitor(Tape tape) {
            tape.open();
            if (!tape.isAtEnd()) {
                readCondition(tape, 0);
            }
        }

        private void readLine(Tape tape, int row) {
            readRest(tape, row, tape.told(WAIT, KILL));
        }

        private void readRest(Tape tape, int row, int first) {
            verb[row] = first;
            if (first == END) {
                return;
            }
            tape.skip(' ');
            switch (first) {
                case UNTIL:
                    readCondition(tape, row);
                    return;
                case IF:
                    readCondition(tape, row);
                    tape.skip(' ');
                    tape.told(GO, GO);
                    tape.skip(' ');
                    target[row] = tape.number(0, LINES - 1);
                    return;
                case GO:
                    target[row] = tape.number(0, LINES - 1);
                    return;
                case SET:
                case ADD:
                    thing[row] = tape.told(V0, V7);
                    tape.skip(' ');
                    value[row] = tape.number(0, 255);
                    return;
                default:
                    value[row] = tape.number(first == WAIT ? 1 : 0, greatest(first));
            }
        }

        private static int greatest(int verb) {
            switch (verb) {
                case WAIT: return 9999;
                case ON:
                case OFF: return LOADS - 1;
                case EMIT: return Link.KINDS - 1;
                case MODE: return MODES - 1;
                default: return PROGRAMS - 1;
            }
        }

        private void readCondition(Tape tape, int row) {
            thing[row] = tape.told(BAT, V7);
            tape.skip(' ');
            sign[row] = tape.compareSign();
            tape.skip(' ');
            value[row] = tape.integer(-99999, 99999);
        }
    }

    /** The Gregorian calendar of 2000 .. 2059, with the LEAPS that were told. */
    private static final class Calendar {
        static final int FIRST_YEAR = 2000;
        static final int LAST_YEAR = 2059;
        private static final int DAY = 86400;
        private static final int MOST_LEAPS = 10;
        private static final int[] MONTH_DAYS = {31, 28, 31, 30, 31, 30, 31, 31, 30, 31, 30, 31};

        private final int[] leapDays = new int[MOST_LEAPS];
        private int leaps;

        int addLeap(int year, int month) {
            int day = dayOf(year, month, daysIn(year, month));
            if (leaps > 0 && day <= leapDays[leaps - 1]) {
                return NONE;
            }
            if (leaps == MOST_LEAPS) {
                return FULL;
            }
            leapDays[leaps] = day;
            leaps++;
            return leaps;
        }

        int readDate(Tape tape) {
            int year = tape.fixed(4, FIRST_YEAR, LAST_YEAR);
            tape.skip('-');
            int month = tape.fixed(2, 1, 12);
            tape.skip('-');
            int day = dayOf(year, month, tape.fixed(2, 1, daysIn(year, month)));
            tape.skip('T');
            int hour = tape.fixed(2, 0, 23);
            tape.skip(':');
            int minute = tape.fixed(2, 0, 59);
            tape.skip(':');
            boolean isLong = hour == 23 && minute == 59 && hasLeap(day);
            int second = tape.fixed(2, 0, isLong ? 60 : 59);
            return day * DAY + leapsBefore(day) + hour * 3600 + minute * 60 + second;
        }

        boolean hasSecond(int second) {
            return within(second, 0, dayOf(LAST_YEAR + 1, 1, 1) * DAY + leaps - 1);
        }

        int writeDate(int second, int[] out) {
            int passed = 0;
            boolean isLeap = false;
            for (int i = 0; i < leaps; i++) {
                int leapSecond = (leapDays[i] + 1) * DAY + i;
                if (second > leapSecond) {
                    passed++;
                }
                isLeap = isLeap || second == leapSecond;
            }
            // a LEAP is written as the second ahead of it, its 59 made 60
            int plain = second - passed - bit(isLeap);
            writeDay(plain / DAY, out);
            int rest = plain % DAY;
            out[10] = 'T';
            writeTwo(rest / 3600, out, 11);
            out[13] = ':';
            writeTwo(rest / 60 % 60, out, 14);
            out[16] = ':';
            writeTwo(rest % 60 + bit(isLeap), out, 17);
            return 19;
        }

        private static void writeDay(int day, int[] out) {
            int year = FIRST_YEAR;
            while (year < LAST_YEAR && dayOf(year + 1, 1, 1) <= day) {
                year++;
            }
            int month = 1;
            while (month < 12 && dayOf(year, month + 1, 1) <= day) {
                month++;
            }
            writeTwo(year / 100, out, 0);
            writeTwo(year % 100, out, 2);
            out[4] = '-';
            writeTwo(month, out, 5);
            out[7] = '-';
            writeTwo(day - dayOf(year, month, 1) + 1, out, 8);
        }

        private static void writeTwo(int value, int[] out, int at) {
            out[at] = '0' + value / 10;
            out[at + 1] = '0' + value % 10;
        }

        private boolean hasLeap(int day) {
            return leapsBefore(day + 1) > leapsBefore(day);
        }

        private int leapsBefore(int day) {
            int before = 0;
            while (before < leaps && leapDays[before] < day) {
                before++;
            }
            return before;
        }

        /** Days from 2000-01-01 on; every fourth of these years is a leap year, 2000 too. */
        private static int dayOf(int year, int month, int day) {
            int days = (year - FIRST_YEAR) * 365 + (year - FIRST_YEAR + 3) / 4;
            for (int m = 1; m < month; m++) {
                days += daysIn(year, m);
            }
            return days + day - 1;
        }

        private static int daysIn(int year, int month) {
            if (!within(month, 1, 12)) {
                return 0;
            }
            return MONTH_DAYS[month - 1] + bit(month == 2 && year % 4 == 0);
        }
    }

    /** Where the ship is, whether it is in SHADOW, and which stations SEE it. */
    private static final class Orbit {
        static final int STATIONS = 4;
        private static final int REACH = 20000;

        /** Never below 60, so that it divides. */
        int period = 5400;
        int phase;
        int shade;
        int width;
        /** Of the second that is done: within it nothing of the sky changes. */
        boolean shadowNow;
        boolean seenNow;
        final int[] arcFrom = new int[STATIONS];
        final int[] arcWidth = new int[STATIONS];
        final int[] arcDrift = new int[STATIONS];

        void look(int second) {
            shadowNow = isInShadow(second);
            seenNow = isSeen(second);
        }

        int angle(int second) {
            return (phase + DEGREES * (second % period) / period) % DEGREES;
        }

        int turn(int second) {
            return second / period;
        }

        boolean isInShadow(int second) {
            return (angle(second) - shade + DEGREES) % DEGREES < width;
        }

        boolean isSeen(int second) {
            int angle = angle(second);
            int turn = turn(second);
            boolean seen = false;
            for (int station = 0; station < STATIONS; station++) {
                seen = seen || inArc(station, angle, turn) < arcWidth[station];
            }
            return seen;
        }

        /** How many DEGREES the angle lies behind the begin of a station's arc. */
        private int inArc(int station, int angle, int turn) {
            int begin = (arcFrom[station] + turn * arcDrift[station]) % DEGREES;
            return (angle - begin + DEGREES) % DEGREES;
        }

        int firstSight(int station, int clock, boolean wanted) {
            int second = clock;
            for (int i = 0; i <= REACH && second <= clock + REACH; i++) {
                int passed = inArc(station, angle(second), turn(second));
                boolean sees = passed < arcWidth[station];
                if (sees == wanted) {
                    return second;
                }
                second = whenPassed(second, (sees ? arcWidth[station] : DEGREES) - passed);
            }
            return NONE;
        }

        /** The first second at which the ship went on by so many DEGREES, but no later than the next TURN, whose arcs may lie elsewhere. */
        private int whenPassed(int second, int degrees) {
            int inTurn = second % period;
            int goal = DEGREES * inTurn / period + degrees;
            int then = (goal * period + DEGREES - 1) / DEGREES;
            return second - inTurn + Math.min(then, period);
        }
    }

    /** The BATTERY, the SUN and the LOADS. */
    private static final class Power {
        int capacity = 1000;
        int battery = 1000;
        int sun = 100;
        /** SUN as it is in the second that is done. */
        int light;
        int used;
        final int[] units = new int[LOADS];
        final int[] rank = new int[LOADS];
        final boolean[] on = new boolean[LOADS];
        final boolean[] isServed = new boolean[LOADS];
        private final int[] order = {0, 1, 2, 3, 4, 5, 6, 7};

        void putInOrder() {
            int placed = 0;
            for (int r = 0; r <= 9; r++) {
                for (int i = 0; i < LOADS; i++) {
                    if (rank[i] == r && placed < LOADS) {
                        order[placed] = i;
                        placed++;
                    }
                }
            }
        }

        void switchTo(int row) {
            for (int i = 0; i < LOADS; i++) {
                on[i] = (row >> i & 1) == 1;
            }
        }

        /** Serves the LOADS for one second: how many of them went off. */
        int serve(boolean inShadow) {
            light = inShadow ? 0 : sun;
            int wentOff = 0;
            int left = light + battery;
            used = 0;
            for (int i = 0; i < LOADS; i++) {
                int load = order[i];
                boolean fits = units[load] <= left;
                isServed[load] = on[load] && fits;
                if (isServed[load]) {
                    left -= units[load];
                    used += units[load];
                } else if (on[load]) {
                    on[load] = false;
                    wentOff++;
                }
            }
            battery = Math.min(left, capacity);
            return wentOff;
        }
    }

    /** WORDS of a byte each, in a code that mends one wrong bit and knows two. */
    private static final class Memory {
        static final int WORDS = 64;
        static final int BITS = 13;
        private static final int[] DATA_PLACES = {3, 5, 6, 7, 9, 10, 11, 12};

        final int[] words = new int[WORDS];
        int mended;
        int lost;

        void write(int word, int value) {
            if (word >= 0 && word < WORDS) {
                words[word] = encoded(value);
            }
        }

        /** The byte of a WORD by READING; STATE if it is LOST. */
        int byteOf(int word) {
            int bits = word >= 0 && word < WORDS ? corrected(words[word]) : STATE;
            return bits == STATE ? STATE : decoded(bits);
        }

        /** Sets a WORD right: whether it was LOST. */
        boolean mend(int word) {
            int bits = corrected(words[word]);
            if (bits == STATE) {
                words[word] = 0;
                lost++;
                return true;
            }
            if (bits != words[word]) {
                words[word] = bits;
                mended++;
            }
            return false;
        }

        private static int encoded(int value) {
            int bits = 0;
            int places = 0;
            int sum = 0;
            for (int i = 0; i < DATA_PLACES.length; i++) {
                if ((value >> i & 1) == 1) {
                    bits |= 1 << DATA_PLACES[i];
                    places ^= DATA_PLACES[i];
                    sum ^= 1;
                }
            }
            for (int check = 1; check <= 8; check *= 2) {
                if ((places & check) != 0) {
                    bits |= 1 << check;
                    sum ^= 1;
                }
            }
            return bits | sum;
        }

        private static int corrected(int bits) {
            int places = 0;
            int sum = 0;
            for (int place = 0; place < BITS; place++) {
                if ((bits >> place & 1) == 1) {
                    places ^= place;
                    sum ^= 1;
                }
            }
            if (sum == 0) {
                return places == 0 ? bits : STATE;
            }
            return places < BITS ? bits ^ 1 << places : STATE;
        }

        private static int decoded(int bits) {
            int value = 0;
            for (int i = 0; i < DATA_PLACES.length; i++) {
                value |= (bits >> DATA_PLACES[i] & 1) << i;
            }
            return value;
        }
    }

    /** THE CLOCK, and what goes on by it: PROGRAMS, DUE STARTS, MODES, MONITORS, and commands as they come. */
    private static final class Board {
        static final int MONITORS = 8;
        static final int ACT_SAFE = 8;
        private static final int SAFE = 0;
        private static final int MOST_DUE = 10;
        private static final int LINES_A_TICK = 8;
        private static final int SOON = 60;

        private final Orbit course;
        private final Power supply;
        private final Memory memory;
        private final Link link;
        int clock;
        int events;
        int mode;
        /** The LOADS of each MODE, then the PROGRAMS of each. */
        final int[] modeRows = new int[2 * MODES];
        final Lines programs = new Lines(PROGRAMS * LINES);
        private final Lines drafts = new Lines(PROGRAMS * LINES);
        /** The line that is next; NONE if the PROGRAM does not run. */
        final int[] next = new int[PROGRAMS];
        final int[] waits = new int[PROGRAMS];
        private final int[] dueSeconds = new int[MOST_DUE];
        private final int[] duePrograms = new int[MOST_DUE];
        int dueCount;
        private final Lines conditions = new Lines(MONITORS);
        /** N of each MONITOR; 0 if it is not set. */
        private final int[] monitorTicks = new int[MONITORS];
        private final int[] monitorActs = new int[MONITORS];
        private final int[] counted = new int[MONITORS];
        private final int[] latestAct = new int[MONITORS];

        Board(Orbit course, Power supply, Memory memory, Link link) {
            this.course = course;
            this.supply = supply;
            this.memory = memory;
            this.link = link;
            Arrays.fill(next, NONE);
        }

        void doSecond() {
            clock++;
            course.look(clock);
            events += supply.serve(course.shadowNow);
            if (memory.mend(clock & Memory.WORDS - 1)) {
                events++;
            }
            beginDue();
            for (int k = 0; k < PROGRAMS; k++) {
                goOn(k);
            }
            for (int k = 0; k < MONITORS; k++) {
                watch(k);
            }
            if (supply.isServed[0] && course.seenNow) {
                link.sendFrame();
            }
        }

        int addDue(int second, int program) {
            if (dueCount == MOST_DUE) {
                return FULL;
            }
            dueSeconds[dueCount] = second;
            duePrograms[dueCount] = program;
            dueCount++;
            return dueCount;
        }

        private void beginDue() {
            int left = 0;
            for (int i = 0; i < dueCount; i++) {
                if (dueSeconds[i] == clock) {
                    begin(duePrograms[i]);
                } else {
                    dueSeconds[left] = dueSeconds[i];
                    duePrograms[left] = duePrograms[i];
                    left++;
                }
            }
            dueCount = left;
        }

        /** Lines up to the first that there is not become PROGRAM k. */
        void install(int k, Lines from, int fromRow) {
            int count = from.countFrom(fromRow);
            int row = k * LINES;
            for (int i = 0; i < count; i++) {
                programs.copy(row + i, from, fromRow + i);
            }
            programs.erase(row + count, row + LINES);
            stop(k);
        }

        private void begin(int k) {
            next[k] = 0;
            waits[k] = 0;
        }

        private void stop(int k) {
            next[k] = NONE;
            waits[k] = 0;
        }

        private void goTo(int newMode) {
            mode = newMode;
            supply.switchTo(modeRows[newMode]);
            int staying = modeRows[MODES + newMode];
            for (int k = 0; k < PROGRAMS; k++) {
                if ((staying >> k & 1) == 0) {
                    stop(k);
                }
            }
        }

        private void goOn(int k) {
            if (waits[k] > 0) {
                waits[k]--;
            }
            boolean goesOn = next[k] != NONE && waits[k] == 0;
            for (int done = 0; done < LINES_A_TICK && goesOn; done++) {
                goesOn = doLine(k);
            }
        }

        /** Does the line that is next: whether the PROGRAM does another one in this TICK. */
        private boolean doLine(int k) {
            int line = next[k];
            int row = k * LINES + line;
            if (line >= LINES || !programs.isThere(row)) {
                stop(k);
                return false;
            }
            switch (programs.verb[row]) {
                case Lines.WAIT:
                    next[k] = line + 1;
                    waits[k] = programs.value[row];
                    return false;
                case Lines.UNTIL:
                case Lines.IF:
                    return decide(k, row, judge(programs, row));
                case Lines.GO:
                    next[k] = programs.target[row];
                    return true;
                case Lines.END:
                    stop(k);
                    return false;
                default:
                    // ahead of doing it: a run or kill of itself has the last word
                    next[k] = line + 1;
                    if (!perform(programs, row)) {
                        failOf(k);
                    }
                    return next[k] != NONE;
            }
        }

        private boolean decide(int k, int row, int truth) {
            if (truth == STATE) {
                failOf(k);
                return false;
            }
            if (programs.verb[row] == Lines.IF) {
                next[k] = truth == 1 ? programs.target[row] : next[k] + 1;
                return true;
            }
            next[k] += truth;
            return truth == 1;
        }

        /** A LOST V was read. */
        private void failOf(int k) {
            events++;
            stop(k);
        }

        /** Whether a CONDITION is true (1, 0); STATE if it reads a LOST V. */
        private int judge(Lines lines, int row) {
            int left = measure(lines.thing[row]);
            int right = lines.value[row];
            if (left == STATE) {
                return STATE;
            }
            switch (lines.sign[row]) {
                case '=': return bit(left == right);
                case '<': return bit(left < right);
                default: return bit(left > right);
            }
        }

        private int measure(int thing) {
            switch (thing) {
                case Lines.BAT: return supply.battery;
                case Lines.SUN: return supply.light;
                case Lines.USED: return supply.used;
                case Lines.MODE_NOW: return mode;
                case Lines.REC: return link.recordedBytes;
                case Lines.FIX: return memory.mended;
                case Lines.EV: return events;
                case Lines.TURN: return course.turn(clock);
                case Lines.SEEN: return bit(course.seenNow);
                default: return memory.byteOf(thing - Lines.V0);
            }
        }

        /** Does a line that may be a command, too: false, and nothing, if it reads a LOST V. */
        private boolean perform(Lines lines, int row) {
            int value = lines.value[row];
            switch (lines.verb[row]) {
                case Lines.ON:
                case Lines.OFF:
                    supply.on[value] = lines.verb[row] == Lines.ON;
                    return true;
                case Lines.SET:
                    memory.write(lines.thing[row] - Lines.V0, value);
                    return true;
                case Lines.ADD:
                    return add(lines.thing[row] - Lines.V0, value);
                case Lines.EMIT:
                    return record(value);
                case Lines.MODE:
                    goTo(value);
                    return true;
                case Lines.RUN:
                    begin(value);
                    return true;
                case Lines.KILL:
                    stop(value);
                    return true;
                default:
                    return true;
            }
        }

        private boolean add(int variable, int value) {
            int before = memory.byteOf(variable);
            if (before == STATE) {
                return false;
            }
            memory.write(variable, before + value & 255);
            return true;
        }

        private boolean record(int kind) {
            for (int i = 0; i <= kind % 4; i++) {
                int data = memory.byteOf(i);
                if (data == STATE) {
                    return false;
                }
                link.made[PACKET_HEAD + i] = data;
            }
            link.label(kind, clock);
            events += link.record();
            return true;
        }

        /** A null instead of a CONDITION unsets the MONITOR. */
        void setMonitor(int k, int ticks, int act, Lines condition) {
            monitorTicks[k] = condition == null ? 0 : ticks;
            monitorActs[k] = act;
            counted[k] = 0;
            latestAct[k] = -SOON;
            if (condition != null) {
                conditions.copy(k, condition, 0);
            }
        }

        private void watch(int k) {
            if (monitorTicks[k] == 0) {
                return;
            }
            if (judge(conditions, k) != 1) {
                counted[k] = 0;
                return;
            }
            counted[k]++;
            if (counted[k] == monitorTicks[k]) {
                act(k);
            }
        }

        private void act(int k) {
            boolean isSoon = clock - latestAct[k] < SOON;
            latestAct[k] = clock;
            events++;
            if (isSoon || monitorActs[k] == ACT_SAFE) {
                goTo(SAFE);
            } else {
                begin(monitorActs[k]);
            }
        }

        /** A command comes well: whether it is ACCEPTED. */
        boolean takeCommand(int number, Lines lines, int row) {
            if (number != link.awaited) {
                link.flags = 1;
                return false;
            }
            link.awaited = number + 1 & 255;
            link.flags = 0;
            if (lines.draftRow[row] != NONE) {
                drafts.copy(lines.draftRow[row], lines, row);
            } else if (lines.verb[row] == Lines.READY) {
                ready(lines.value[row]);
            } else if (!perform(lines, row)) {
                events++;
            }
            return true;
        }

        private void ready(int k) {
            int row = k * LINES;
            if (drafts.isThere(row)) {
                install(k, drafts, row);
                drafts.erase(row, row + LINES);
            }
        }
    }

    /** The RECORDER, the FRAMES that go down, and what the ship reports of commands. */
    private static final class Link {
        static final int KINDS = 16;
        private static final int CLASSES = 4;
        private static final int ROOM = 300;
        /** As many of the shortest PACKETS as the RECORDER holds. */
        private static final int SLOTS = 50;
        private static final int MOST_FRAMES = 30;

        /** A ring of SLOTS for each class of KINDS: both what is sent and what goes is the oldest of a class. */
        private final int[] recorded = new int[CLASSES * SLOTS * LONGEST_PACKET];
        private final int[] oldest = new int[CLASSES];
        private final int[] held = new int[CLASSES];
        int recordedBytes;
        private final int[] kindCounts = new int[KINDS];
        final int[] made = new int[LONGEST_PACKET];
        private final int[] underWay = new int[LONGEST_PACKET];
        private int underWaySize;
        private int underWayAt;
        /** A ring, and one place more for FRAMES that are gone as they come. */
        final int[] frames = new int[(MOST_FRAMES + 1) * FRAME_BYTES];
        private int firstFrame;
        int waiting;
        private int frameCount;
        int awaited;
        int flags;

        int recordedPackets() {
            return held[0] + held[1] + held[2] + held[3];
        }

        void label(int kind, int clock) {
            made[0] = 10 + kind;
            made[1] = kindCounts[kind];
            made[2] = clock >> 8 & 255;
            made[3] = clock & 255;
            made[4] = kind % 4 + 1;
            kindCounts[kind] = kindCounts[kind] + 1 & 255;
        }

        /** Records the PACKET that was made: how many EVENTS that was. */
        int record() {
            int size = PACKET_HEAD + made[4];
            int own = (made[0] - 10) / 4;
            int gone = 0;
            for (int i = 0; i < CLASSES * SLOTS && recordedBytes + size > ROOM; i++) {
                int last = lastClass();
                if (last < own) {
                    return gone + 1;
                }
                takeOldest(last, slot(last, 0));
                gone++;
            }
            int at = slot(own, held[own]);
            System.arraycopy(made, 0, recorded, at, size);
            held[own]++;
            recordedBytes += size;
            return gone;
        }

        private int slot(int which, int place) {
            return (which * SLOTS + (oldest[which] + place) % SLOTS) * LONGEST_PACKET;
        }

        private int lastClass() {
            int last = CLASSES - 1;
            while (last >= 0 && held[last] == 0) {
                last--;
            }
            return last;
        }

        private int firstClass() {
            int first = 0;
            while (first < CLASSES && held[first] == 0) {
                first++;
            }
            return first;
        }

        private void takeOldest(int which, int from) {
            recordedBytes -= PACKET_HEAD + recorded[from + PACKET_HEAD - 1];
            oldest[which] = (oldest[which] + 1) % SLOTS;
            held[which]--;
        }

        void sendFrame() {
            boolean stays = waiting < MOST_FRAMES;
            int at = (stays ? (firstFrame + waiting) % MOST_FRAMES : MOST_FRAMES) * FRAME_BYTES;
            frames[at] = frameCount;
            frames[at + 1] = awaited;
            frames[at + 2] = flags;
            frames[at + 3] = fillData(at + FRAME_HEAD);
            frameCount = frameCount + 1 & 255;
            if (stays) {
                int check = checkOf(frames, at);
                frames[at + FRAME_BYTES - 2] = check >> 8;
                frames[at + FRAME_BYTES - 1] = check & 255;
                waiting++;
            }
        }

        /** Fills a FRAME's data: its FIRST. */
        private int fillData(int from) {
            int first = NO_FIRST;
            for (int i = 0; i < FRAME_DATA; i++) {
                if (underWayAt == underWaySize && firstClass() < CLASSES) {
                    startPacket(firstClass());
                    first = Math.min(first, i);
                }
                boolean isData = underWayAt < underWaySize;
                frames[from + i] = isData ? underWay[underWayAt] : 0;
                underWayAt += bit(isData);
            }
            return first;
        }

        private void startPacket(int which) {
            int from = slot(which, 0);
            System.arraycopy(recorded, from, underWay, 0, LONGEST_PACKET);
            underWaySize = PACKET_HEAD + underWay[PACKET_HEAD - 1];
            underWayAt = 0;
            takeOldest(which, from);
        }

        int oldestFrame() {
            return firstFrame * FRAME_BYTES;
        }

        void dropFrame() {
            firstFrame = (firstFrame + 1) % MOST_FRAMES;
            waiting--;
        }

        static int checkOf(int[] frames, int at) {
            int check = 0xFFFF;
            for (int i = 0; i < FRAME_BYTES - 2; i++) {
                check ^= frames[at + i] << 8;
                for (int bit = 0; bit < 8; bit++) {
                    check = check << 1 ^ (check > 32767 ? 0x11021 : 0);
                }
            }
            return check;
        }
    }

    /** THE GROUND: PACKETS pieced together from FRAMES, and the commands that are not acknowledged. */
    private static final class Ground {
        private static final int MOST_PACKETS = 60;
        private static final int MOST_KEPT = 8;

        int gaps;
        int bad;
        private boolean hasHeard;
        private int latestCount;
        private final int[] piece = new int[LONGEST_PACKET];
        private int pieced;
        private final int[] archive = new int[MOST_PACKETS * LONGEST_PACKET];
        int archived;
        final Lines kept = new Lines(MOST_KEPT);
        int keptCount;
        /** How many of the kept ones, from the oldest on, are not to be sent. */
        int sent;
        int nextNumber;

        /** How many PACKETS came to be whole by a FRAME, or BAD. */
        int takeFrame(int[] frames, int at) {
            int check = frames[at + FRAME_BYTES - 2] << 8 | frames[at + FRAME_BYTES - 1];
            if (check != Link.checkOf(frames, at)) {
                bad++;
                return BAD;
            }
            int from = begin(frames[at], frames[at + 3]);
            acknowledge(frames[at + 1], frames[at + 2]);
            return pieceTogether(frames, at + FRAME_HEAD, from);
        }

        /** Looks at a FRAME's COUNT: the place from which on its data are taken. */
        private int begin(int count, int first) {
            boolean isNext = hasHeard && count == (latestCount + 1 & 255);
            if (hasHeard && !isNext) {
                gaps++;
            }
            hasHeard = true;
            latestCount = count;
            if (isNext) {
                return 0;
            }
            pieced = 0;
            return first;
        }

        private int pieceTogether(int[] frames, int data, int from) {
            int whole = 0;
            for (int i = from; i < FRAME_DATA; i++) {
                int b = frames[data + i];
                boolean isWrong = pieced == 0 && !within(b, 10, 9 + Link.KINDS)
                    || pieced == PACKET_HEAD - 1 && !within(b, 1, 4);
                if (isWrong) {
                    pieced = 0;
                    return whole;
                }
                piece[pieced] = b;
                pieced++;
                if (pieced >= PACKET_HEAD && pieced == PACKET_HEAD + piece[PACKET_HEAD - 1]) {
                    putInArchive();
                    whole++;
                }
            }
            return whole;
        }

        private void putInArchive() {
            if (archived < MOST_PACKETS) {
                System.arraycopy(piece, 0, archive, archived * LONGEST_PACKET, pieced);
                archived++;
            }
            pieced = 0;
        }

        int writePacket(int i, int[] out) {
            int from = i * LONGEST_PACKET;
            int size = PACKET_HEAD + archive[from + PACKET_HEAD - 1];
            System.arraycopy(archive, from, out, 0, size);
            return size;
        }

        boolean isFull() {
            return keptCount == MOST_KEPT;
        }

        int keep(Lines read) {
            int number = nextNumber;
            kept.copy(keptCount, read, 0);
            keptCount++;
            nextNumber = number + 1 & 255;
            return number;
        }

        int toSend() {
            return keptCount - sent;
        }

        int nextToSend() {
            return nextNumber - toSend() & 255;
        }

        private void acknowledge(int report, int flags) {
            int ahead = report - (nextNumber - keptCount) & 255;
            if (ahead <= keptCount) {
                for (int i = ahead; i < keptCount; i++) {
                    kept.copy(i - ahead, kept, i);
                }
                keptCount -= ahead;
                sent = Math.max(0, sent - ahead);
            }
            if (flags == 1) {
                sent = 0;
            }
        }
    }

    /** PASSES, and THE BEST CHOICE of them. */
    private static final class Passes {
        private static final int MOST = 12;

        private final int[] station = new int[MOST];
        private final int[] from = new int[MOST];
        private final int[] to = new int[MOST];
        private final int[] worth = new int[MOST];
        /** For each PASS the set of those that can't be chosen with it. */
        private final int[] clashes = new int[MOST];
        int count;
        int gap = 10;
        boolean isChosen;
        int best;
        int bestWorth;

        int add(int newStation, int newFrom, int newTo, int newWorth) {
            if (count == MOST) {
                return FULL;
            }
            station[count] = newStation;
            from[count] = newFrom;
            to[count] = newTo;
            worth[count] = newWorth;
            count++;
            isChosen = false;
            return count - 1;
        }

        void choose() {
            if (isChosen) {
                return;
            }
            findClashes();
            best = 0;
            bestWorth = 0;
            for (int set = 1; set < 1 << count; set++) {
                int sum = worthOf(set);
                if (sum > bestWorth || sum == bestWorth && isAhead(set)) {
                    best = set;
                    bestWorth = sum;
                }
            }
            isChosen = true;
        }

        private void findClashes() {
            for (int i = 0; i < count; i++) {
                clashes[i] = 0;
                for (int j = 0; j < count; j++) {
                    if (i != j && !goTogether(i, j)) {
                        clashes[i] |= 1 << j;
                    }
                }
            }
        }

        private boolean goTogether(int i, int j) {
            int between = station[i] == station[j] ? 0 : gap;
            return to[i] + between <= from[j] || to[j] + between <= from[i];
        }

        /** The sum of WORTH of a set; NONE if it is no CHOICE. */
        private int worthOf(int set) {
            int sum = 0;
            for (int i = 0; i < count; i++) {
                if ((set >> i & 1) == 1) {
                    if ((clashes[i] & set) != 0) {
                        return NONE;
                    }
                    sum += worth[i];
                }
            }
            return sum;
        }

        /** Of two sets of the same WORTH. */
        private boolean isAhead(int set) {
            int fewer = Integer.bitCount(best) - Integer.bitCount(set);
            int different = set ^ best;
            return fewer > 0 || fewer == 0 && (set & different & -different) != 0;
        }
    }

    /** FIELDS, barred or not, and the WAYS round those that are. */
    private static final class Sky {
        static final int COLUMNS = 24;
        static final int ROWS = 12;
        static final int FIELDS = COLUMNS * ROWS;
        private static final int SIDES = 4;
        private static final char[] LETTERS = {'u', 'l', 'r', 'd'};

        final boolean[] barred = new boolean[FIELDS];
        private final int[] distance = new int[FIELDS];
        private final int[] queue = new int[FIELDS];

        /** The FIELD next to another one, by the sides in the order of LETTERS; NONE beyond the rows. */
        private static int neighbour(int field, int side) {
            int row = field / COLUMNS;
            int column = field % COLUMNS;
            switch (side) {
                case 0: return row > 0 ? field - COLUMNS : NONE;
                case 1: return row * COLUMNS + (column + COLUMNS - 1) % COLUMNS;
                case 2: return row * COLUMNS + (column + 1) % COLUMNS;
                default: return row < ROWS - 1 ? field + COLUMNS : NONE;
            }
        }

        /** Counts from the goal on, so that writeTurns can take the first of the turns that come nearer. */
        int turnsTo(int from, int goal) {
            Arrays.fill(distance, NONE);
            if (barred[from] || barred[goal]) {
                return NONE;
            }
            distance[goal] = 0;
            queue[0] = goal;
            int found = 1;
            for (int done = 0; done < found && done < FIELDS && distance[from] == NONE; done++) {
                for (int side = 0; side < SIDES; side++) {
                    int field = neighbour(queue[done], side);
                    if (field != NONE && !barred[field] && distance[field] == NONE && found < FIELDS) {
                        distance[field] = distance[queue[done]] + 1;
                        queue[found] = field;
                        found++;
                    }
                }
            }
            return distance[from];
        }

        void writeTurns(int from, int turns, int[] out) {
            int field = from;
            for (int i = 0; i < turns; i++) {
                int side = 0;
                while (side < SIDES - 1 && !isNearer(neighbour(field, side), turns - i)) {
                    side++;
                }
                out[i] = LETTERS[side];
                field = neighbour(field, side);
            }
        }

        private boolean isNearer(int field, int turns) {
            return field != NONE && distance[field] == turns - 1;
        }
    }
}
