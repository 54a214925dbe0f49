import java.time.LocalDate;
import java.time.temporal.ChronoUnit;
import java.util.ArrayDeque;
import java.util.ArrayList;
import java.util.Arrays;
import java.util.Collections;
import java.util.HashMap;
import java.util.List;
import java.util.Map;
import java.util.TreeMap;

/** The document once more, plainly and slowly, with the whole Java library: random runs compare the class with it. */
final class Model {
    /** A text that is WRONG at a place. */
    private static final class Wrong extends Exception {
        private static final long serialVersionUID = 1L;
        final int place;

        Wrong(int place) {
            super("wrong");
            this.place = place;
        }
    }

    /** A V that is LOST was read. */
    private static final class Lost extends Exception {
        private static final long serialVersionUID = 1L;
    }

    private record Condition(String thing, char sign, int value) {
    }

    private record Line(String verb, int number, int variable, Condition condition) {
    }

    private record Command(int number, int k, int n, Line line) {
    }

    private record Pass(int station, int from, int to, int worth) {
    }

    private static final class Program {
        List<Line> lines = new ArrayList<>();
        Map<Integer, Line> draft = new HashMap<>();
        boolean runs;
        int next;
        int resume;
    }

    private static final class Monitor {
        Condition condition;
        int n;
        int act;
        int counted;
        Integer acted;
    }

    private final StringBuilder tape = new StringBuilder();
    private List<Integer> out = new ArrayList<>();
    private final List<LocalDate> leaps = new ArrayList<>();
    private int period = 5400;
    private int phase;
    private int shade;
    private int width;
    private final int[][] stations = new int[4][3];
    private int clock;
    private int capacity = 1000;
    private int battery = 1000;
    private int sun = 100;
    private int used;
    private final int[][] loads = new int[8][2];
    private final boolean[] on = new boolean[8];
    private final boolean[] served = new boolean[8];
    private final boolean[][] memory = new boolean[64][13];
    private int mended;
    private int lost;
    private int events;
    private int mode;
    private final int[][] modes = new int[4][2];
    private final Program[] programs = new Program[8];
    private final Monitor[] monitors = new Monitor[8];
    private final List<int[]> dues = new ArrayList<>();
    private final Map<Integer, Integer> kinds = new HashMap<>();
    private final List<List<Integer>> recorder = new ArrayList<>();
    private final ArrayDeque<Integer> underWay = new ArrayDeque<>();
    private int frameCount;
    private final ArrayDeque<int[]> frames = new ArrayDeque<>();
    private int awaited;
    private int flags;
    private int gaps;
    private int bad;
    private Integer before;
    private List<Integer> piece = new ArrayList<>();
    private final List<List<Integer>> archive = new ArrayList<>();
    private final List<Command> kept = new ArrayList<>();
    private final List<Command> toSend = new ArrayList<>();
    private int told;
    private final List<Pass> passes = new ArrayList<>();
    private int gap = 10;
    private final boolean[][] barred = new boolean[24][12];

    Model() {
        for (int i = 0; i < 8; i++) {
            programs[i] = new Program();
            monitors[i] = new Monitor();
        }
    }

    private static boolean in(int x, int low, int high) {
        return low <= x && x <= high;
    }

    // ---- texts

    int feed(int a, int b, int c, int d, int e) {
        if (tape.length() + 20 > 1600) {
            return -4;
        }
        for (int x : new int[] {a, b, c, d, e}) {
            tape.append((char) (x >>> 24)).append((char) (x >> 16 & 255)).append((char) (x >> 8 & 255)).append((char) (x & 255));
        }
        return tape.length();
    }

    int end(int n) {
        if (!in(n, 0, tape.length())) {
            return -1;
        }
        tape.setLength(n);
        return n;
    }

    int out(int i) {
        return in(i, 0, out.size() - 1) ? out.get(i) : -1;
    }

    private void write(String text) {
        out = new ArrayList<>();
        for (char c : text.toCharArray()) {
            out.add((int) c);
        }
    }

    private String takeTape() {
        String text = tape.toString();
        tape.setLength(0);
        return text;
    }

    private static final class Reader {
        final String text;
        int at;

        Reader(String text) {
            this.text = text;
        }

        boolean more() {
            return at < text.length();
        }

        char peek() {
            return more() ? text.charAt(at) : 0xFFFF;
        }

        void sign(char c) throws Wrong {
            if (peek() != c) {
                throw new Wrong(at);
            }
            at++;
        }

        int number(int low, int high) throws Wrong {
            int start = at;
            while ("0123456789".indexOf(peek()) >= 0) {
                if (at - start == 9 || at > start && text.charAt(start) == '0') {
                    throw new Wrong(at);
                }
                at++;
            }
            if (at == start) {
                throw new Wrong(at);
            }
            int value = Integer.parseInt(text.substring(start, at));
            if (!in(value, low, high)) {
                throw new Wrong(start);
            }
            return value;
        }

        int integer() throws Wrong {
            int start = at;
            if (peek() != '-') {
                return number(0, 99999);
            }
            at++;
            if (peek() == '0') {
                throw new Wrong(at);
            }
            int value = number(0, 999999999);
            if (value > 99999) {
                throw new Wrong(start);
            }
            return -value;
        }

        String word(String... words) throws Wrong {
            int start = at;
            StringBuilder word = new StringBuilder();
            while (more() && String.valueOf(peek()).matches(word.isEmpty() ? "[a-z]" : "[a-z0-9]")) {
                word.append(peek());
                at++;
            }
            if (!Arrays.asList(words).contains(word.toString())) {
                throw new Wrong(start);
            }
            return word.toString();
        }

        void over() throws Wrong {
            if (more()) {
                throw new Wrong(at);
            }
        }

        Condition condition() throws Wrong {
            String thing = word("bat", "sun", "used", "mode", "rec", "fix", "ev", "turn", "seen",
                "v0", "v1", "v2", "v3", "v4", "v5", "v6", "v7");
            sign(' ');
            char c = peek();
            if (c != '=' && c != '<' && c != '>') {
                throw new Wrong(at);
            }
            at++;
            sign(' ');
            return new Condition(thing, c, integer());
        }

        Line line() throws Wrong {
            return rest(word("on", "off", "wait", "until", "if", "go", "set", "add", "emit", "mode", "run", "kill", "end"));
        }

        Line rest(String verb) throws Wrong {
            if (verb.equals("end")) {
                return new Line(verb, 0, 0, null);
            }
            sign(' ');
            switch (verb) {
                case "until":
                    return new Line(verb, 0, 0, condition());
                case "if":
                    Condition condition = condition();
                    sign(' ');
                    word("go");
                    sign(' ');
                    return new Line(verb, number(0, 29), 0, condition);
                case "set":
                case "add":
                    int variable = word("v0", "v1", "v2", "v3", "v4", "v5", "v6", "v7").charAt(1) - '0';
                    sign(' ');
                    return new Line(verb, number(0, 255), variable, null);
                case "wait":
                    return new Line(verb, number(1, 9999), 0, null);
                case "go":
                    return new Line(verb, number(0, 29), 0, null);
                case "emit":
                    return new Line(verb, number(0, 15), 0, null);
                case "mode":
                    return new Line(verb, number(0, 3), 0, null);
                default:
                    return new Line(verb, number(0, 7), 0, null);
            }
        }
    }

    // ---- times

    int leap(int year, int month) {
        if (!in(year, 2000, 2059) || month != 6 && month != 12) {
            return -1;
        }
        LocalDate day = LocalDate.of(year, month, month == 6 ? 30 : 31);
        if (!leaps.isEmpty() && !day.isAfter(leaps.get(leaps.size() - 1))) {
            return -1;
        }
        if (leaps.size() == 10) {
            return -4;
        }
        leaps.add(day);
        return leaps.size();
    }

    private int firstSecond(LocalDate day) {
        long days = ChronoUnit.DAYS.between(LocalDate.of(2000, 1, 1), day);
        return (int) (days * 86400 + leaps.stream().filter(x -> x.isBefore(day)).count());
    }

    int date() {
        String text = takeTape();
        String form = "dddd-dd-ddTdd:dd:dd";
        for (int i = 0; i < form.length(); i++) {
            if (i >= text.length()) {
                return -1000 - text.length();
            }
            char c = text.charAt(i);
            if (form.charAt(i) == 'd' ? c < '0' || c > '9' : c != form.charAt(i)) {
                return -1000 - i;
            }
            int from = dateFault(text.substring(0, i + 1));
            if (from >= 0) {
                return -1000 - from;
            }
        }
        if (text.length() > 19) {
            return -1019;
        }
        LocalDate day = LocalDate.parse(text.substring(0, 10));
        return firstSecond(day) + Integer.parseInt(text.substring(11, 13)) * 3600
            + Integer.parseInt(text.substring(14, 16)) * 60 + Integer.parseInt(text.substring(17, 19));
    }

    /** The place of the number that is complete with the last byte, if it can't be; else -1. */
    private int dateFault(String s) {
        switch (s.length()) {
            case 4:
                return in(Integer.parseInt(s), 2000, 2059) ? -1 : 0;
            case 7:
                return in(Integer.parseInt(s.substring(5)), 1, 12) ? -1 : 5;
            case 10:
                int most = LocalDate.parse(s.substring(0, 8) + "01").lengthOfMonth();
                return in(Integer.parseInt(s.substring(8)), 1, most) ? -1 : 8;
            case 13:
                return in(Integer.parseInt(s.substring(11)), 0, 23) ? -1 : 11;
            case 16:
                return in(Integer.parseInt(s.substring(14)), 0, 59) ? -1 : 14;
            case 19:
                boolean leap = s.substring(11, 16).equals("23:59") && leaps.contains(LocalDate.parse(s.substring(0, 10)));
                return in(Integer.parseInt(s.substring(17)), 0, leap ? 60 : 59) ? -1 : 17;
            default:
                return -1;
        }
    }

    int written(int second) {
        if (second < 0 || second >= firstSecond(LocalDate.of(2060, 1, 1))) {
            return -1;
        }
        LocalDate day = LocalDate.of(2000, 1, 1).plusDays(second / 86400 + 1);
        while (firstSecond(day) > second) {
            day = day.minusDays(1);
        }
        int rest = second - firstSecond(day);
        if (rest == 86400) {
            write(day + "T23:59:60");
        } else {
            write(String.format("%sT%02d:%02d:%02d", day, rest / 3600, rest / 60 % 60, rest % 60));
        }
        return 19;
    }

    // ---- the sky

    int orbit(int p, int ph, int sh, int w) {
        if (!in(p, 60, 20000) || !in(ph, 0, 3599) || !in(sh, 0, 3599) || !in(w, 0, 3600)) {
            return -1;
        }
        period = p;
        phase = ph;
        shade = sh;
        width = w;
        return 1;
    }

    int station(int s, int from, int w, int drift) {
        if (!in(s, 0, 3) || !in(from, 0, 3599) || !in(w, 0, 3600) || !in(drift, 0, 3599)) {
            return -1;
        }
        stations[s] = new int[] {from, w, drift};
        return 1;
    }

    private int angle(int t) {
        return Math.floorMod(phase + Math.floorDiv(3600 * (t % period), period), 3600);
    }

    private boolean shadow() {
        return Math.floorMod(angle(clock) - shade, 3600) < width;
    }

    private boolean sees(int s, int t) {
        long begin = stations[s][0] + (long) (t / period) * stations[s][2];
        return Math.floorMod(angle(t) - begin, 3600L) < stations[s][1];
    }

    private boolean seen() {
        return sees(0, clock) || sees(1, clock) || sees(2, clock) || sees(3, clock);
    }

    int sight(int s, boolean behind) {
        if (!in(s, 0, 3)) {
            return -1;
        }
        for (int t = clock; t <= clock + 20000; t++) {
            if (behind ? !sees(s, t) : sees(s, t)) {
                return t;
            }
        }
        return -1;
    }

    // ---- power

    int power(int c, int s) {
        if (!in(c, 0, 1000000) || !in(s, 0, 10000)) {
            return -1;
        }
        capacity = c;
        if (battery > c) {
            battery = c;
        }
        sun = s;
        return 1;
    }

    int load(int i, int units, int rank) {
        if (!in(i, 0, 7) || !in(units, 0, 1000) || !in(rank, 0, 9)) {
            return -1;
        }
        loads[i] = new int[] {units, rank};
        return 1;
    }

    private int sunNow() {
        return shadow() ? 0 : sun;
    }

    private void serve() {
        List<Integer> order = new ArrayList<>(List.of(0, 1, 2, 3, 4, 5, 6, 7));
        order.sort((x, y) -> loads[x][1] != loads[y][1] ? loads[x][1] - loads[y][1] : x - y);
        used = 0;
        Arrays.fill(served, false);
        for (int i : order) {
            if (on[i]) {
                if (loads[i][0] > sunNow() + battery - used) {
                    on[i] = false;
                    events++;
                } else {
                    served[i] = true;
                    used += loads[i][0];
                }
            }
        }
        battery = Math.min(capacity, battery + sunNow() - used);
    }

    // ---- memory

    private static final int[] DATA = {3, 5, 6, 7, 9, 10, 11, 12};

    private void store(int w, int b) {
        boolean[] bits = memory[w];
        Arrays.fill(bits, false);
        for (int i = 0; i < 8; i++) {
            bits[DATA[i]] = (b & 1 << i) != 0;
        }
        for (int check : new int[] {1, 2, 4, 8}) {
            for (int place = 1; place <= 12; place++) {
                if (place != check && (place & check) != 0) {
                    bits[check] ^= bits[place];
                }
            }
        }
        for (int place = 1; place <= 12; place++) {
            bits[0] ^= bits[place];
        }
    }

    /** The wrong place, 13 if none is, -1 if the WORD is LOST. */
    private int wrongBit(int w) {
        int s = 0;
        int ones = 0;
        for (int place = 0; place < 13; place++) {
            if (memory[w][place]) {
                s ^= place;
                ones++;
            }
        }
        if (ones % 2 == 0) {
            return s == 0 ? 13 : -1;
        }
        return s > 12 ? -1 : s;
    }

    private int fetch(int w) throws Lost {
        int wrong = wrongBit(w);
        if (wrong < 0) {
            throw new Lost();
        }
        int b = 0;
        for (int i = 0; i < 8; i++) {
            if (memory[w][DATA[i]] != (DATA[i] == wrong)) {
                b += 1 << i;
            }
        }
        return b;
    }

    private int bits(int w) {
        int value = 0;
        for (int i = 0; i < 13; i++) {
            value += memory[w][i] ? 1 << i : 0;
        }
        return value;
    }

    int flip(int w, int bit) {
        if (!in(w, 0, 63) || !in(bit, 0, 12)) {
            return -1;
        }
        memory[w][bit] = !memory[w][bit];
        return bits(w);
    }

    int word(int w, int what) {
        if (!in(w, 0, 63) || !in(what, 0, 1)) {
            return -1;
        }
        if (what == 0) {
            return bits(w);
        }
        try {
            return fetch(w);
        } catch (Lost e) {
            return -3;
        }
    }

    private void scrub() {
        int w = clock % 64;
        int wrong = wrongBit(w);
        if (wrong < 0) {
            store(w, 0);
            lost++;
            events++;
        } else if (wrong < 13) {
            memory[w][wrong] = !memory[w][wrong];
            mended++;
        }
    }

    // ---- programs

    int program(int k) {
        if (!in(k, 0, 7)) {
            return -1;
        }
        Reader reader = new Reader(takeTape());
        List<Line> lines = new ArrayList<>();
        try {
            do {
                if (lines.size() == 30) {
                    throw new Wrong(reader.at);
                }
                lines.add(reader.line());
                reader.sign('\n');
            } while (reader.more());
        } catch (Wrong e) {
            return -1000 - e.place;
        }
        programs[k].lines = lines;
        programs[k].runs = false;
        return lines.size();
    }

    int due(int second, int k) {
        if (!in(k, 0, 7) || second <= clock) {
            return -1;
        }
        if (dues.size() == 10) {
            return -4;
        }
        dues.add(new int[] {second, k});
        return dues.size();
    }

    int mode(int m, int l, int p) {
        if (!in(m, 0, 3) || !in(l, 0, 255) || !in(p, 0, 255)) {
            return -1;
        }
        modes[m] = new int[] {l, p};
        return 1;
    }

    int monitor(int k, int n, int act) {
        if (!in(k, 0, 7) || !in(n, 1, 99) || !in(act, 0, 8)) {
            return -1;
        }
        Reader reader = new Reader(takeTape());
        Monitor monitor = new Monitor();
        try {
            if (reader.more()) {
                monitor.condition = reader.condition();
            }
            reader.over();
        } catch (Wrong e) {
            return -1000 - e.place;
        }
        monitor.n = n;
        monitor.act = act;
        monitors[k] = monitor;
        return 1;
    }

    private boolean isTrue(Condition condition) throws Lost {
        int left;
        switch (condition.thing) {
            case "bat": left = battery; break;
            case "sun": left = sunNow(); break;
            case "used": left = used; break;
            case "mode": left = mode; break;
            case "rec": left = recorded(); break;
            case "fix": left = mended; break;
            case "ev": left = events; break;
            case "turn": left = clock / period; break;
            case "seen": left = seen() ? 1 : 0; break;
            default: left = fetch(condition.thing.charAt(1) - '0');
        }
        int order = Integer.compare(left, condition.value);
        return order == (condition.sign == '=' ? 0 : condition.sign == '<' ? -1 : 1);
    }

    private void run(int k) {
        programs[k].runs = true;
        programs[k].next = 0;
        programs[k].resume = clock;
    }

    private void enter(int m) {
        mode = m;
        for (int i = 0; i < 8; i++) {
            on[i] = (modes[m][0] & 1 << i) != 0;
            if ((modes[m][1] & 1 << i) == 0) {
                programs[i].runs = false;
            }
        }
    }

    private void perform(Line line) throws Lost {
        int n = line.number;
        switch (line.verb) {
            case "on": on[n] = true; break;
            case "off": on[n] = false; break;
            case "set": store(line.variable, n); break;
            case "add": store(line.variable, (fetch(line.variable) + n) % 256); break;
            case "emit": emit(n); break;
            case "mode": enter(n); break;
            case "run": run(n); break;
            case "kill": programs[n].runs = false; break;
            default: throw new IllegalStateException(line.verb);
        }
    }

    private void step(Program p) {
        if (!p.runs || p.resume > clock) {
            return;
        }
        int left = 8;
        try {
            while (p.runs && left > 0) {
                if (p.next >= p.lines.size()) {
                    p.runs = false;
                    return;
                }
                Line line = p.lines.get(p.next);
                left--;
                switch (line.verb) {
                    case "wait":
                        p.next++;
                        p.resume = clock + line.number;
                        return;
                    case "until":
                        if (!isTrue(line.condition)) {
                            return;
                        }
                        p.next++;
                        break;
                    case "if":
                        p.next = isTrue(line.condition) ? line.number : p.next + 1;
                        break;
                    case "go":
                        p.next = line.number;
                        break;
                    case "end":
                        p.runs = false;
                        return;
                    default:
                        p.next++;
                        perform(line);
                }
            }
        } catch (Lost e) {
            events++;
            p.runs = false;
        }
    }

    private void watch(Monitor m) {
        if (m.condition == null) {
            return;
        }
        boolean is;
        try {
            is = isTrue(m.condition);
        } catch (Lost e) {
            is = false;
        }
        m.counted = is ? m.counted + 1 : 0;
        if (is && m.counted == m.n) {
            events++;
            if (m.act == 8 || m.acted != null && clock - m.acted < 60) {
                enter(0);
            } else {
                run(m.act);
            }
            m.acted = clock;
        }
    }

    // ---- packets down

    private int recorded() {
        return recorder.stream().mapToInt(List::size).sum();
    }

    private void emit(int n) throws Lost {
        List<Integer> packet = new ArrayList<>(List.of(10 + n, kinds.getOrDefault(n, 0) % 256,
            clock % 65536 / 256, clock % 256, n % 4 + 1));
        for (int i = 0; i <= n % 4; i++) {
            packet.add(fetch(i));
        }
        kinds.merge(n, 1, Integer::sum);
        while (recorded() + packet.size() > 300) {
            int most = recorder.stream().mapToInt(x -> (x.get(0) - 10) / 4).max().getAsInt();
            events++;
            if (most < n / 4) {
                return;
            }
            List<Integer> goes = recorder.stream().filter(x -> (x.get(0) - 10) / 4 == most).findFirst().get();
            removeSame(goes);
        }
        recorder.add(packet);
    }

    private void removeSame(List<Integer> packet) {
        for (int i = 0; i < recorder.size(); i++) {
            if (recorder.get(i) == packet) {
                recorder.remove(i);
                return;
            }
        }
    }

    private static int check(int[] frame) {
        int c = 0xFFFF;
        for (int i = 0; i < 22; i++) {
            c ^= frame[i] * 256;
            for (int j = 0; j < 8; j++) {
                boolean high = c > 32767;
                c = c * 2 % 65536;
                if (high) {
                    c ^= 0x1021;
                }
            }
        }
        return c;
    }

    private void down() {
        if (!served[0] || !seen()) {
            return;
        }
        int[] frame = new int[24];
        frame[0] = frameCount % 256;
        frameCount++;
        frame[1] = awaited;
        frame[2] = flags;
        frame[3] = 255;
        for (int i = 0; i < 18; i++) {
            if (underWay.isEmpty() && !recorder.isEmpty()) {
                int least = recorder.stream().mapToInt(x -> (x.get(0) - 10) / 4).min().getAsInt();
                List<Integer> packet = recorder.stream().filter(x -> (x.get(0) - 10) / 4 == least).findFirst().get();
                removeSame(packet);
                underWay.addAll(packet);
                if (frame[3] == 255) {
                    frame[3] = i;
                }
            }
            frame[4 + i] = underWay.isEmpty() ? 0 : underWay.poll();
        }
        frame[22] = check(frame) / 256;
        frame[23] = check(frame) % 256;
        if (frames.size() < 30) {
            frames.add(frame);
        }
    }

    int tick(int n) {
        if (!in(n, 0, 500)) {
            return -1;
        }
        for (int i = 0; i < n; i++) {
            clock++;
            serve();
            scrub();
            for (int[] due : dues) {
                if (due[0] == clock) {
                    run(due[1]);
                }
            }
            dues.removeIf(x -> x[0] == clock);
            for (Program p : programs) {
                step(p);
            }
            for (Monitor m : monitors) {
                watch(m);
            }
            down();
        }
        return clock;
    }

    int ship(int what) {
        int[] answers = {clock, angle(clock), shadow() ? 1 : 0, battery, used, mode, events, mended, lost,
            recorded(), recorder.size(), awaited, flags, dues.size(), frames.size()};
        return in(what, 0, 14) ? answers[what] : -1;
    }

    int served(int i, int what) {
        if (!in(i, 0, 7) || !in(what, 0, 1)) {
            return -1;
        }
        return (what == 0 ? on : served)[i] ? 1 : 0;
    }

    int runs(int k, int what) {
        if (!in(k, 0, 7) || !in(what, 0, 3)) {
            return -1;
        }
        Program p = programs[k];
        int waits = p.runs ? Math.max(0, p.resume - clock) : 0;
        return new int[] {p.lines.size(), p.runs ? 1 : 0, p.runs ? p.next : -1, waits}[what];
    }

    // ---- the ground

    int noise(int i, int x) {
        if (frames.isEmpty() || !in(i, 0, 23)) {
            return -1;
        }
        int[] frame = frames.peek();
        frame[i] = frame[i] ^ Math.floorMod(x, 256);
        return frame[i];
    }

    int lose() {
        if (frames.isEmpty()) {
            return -1;
        }
        frames.poll();
        return frames.size();
    }

    int receive() {
        if (frames.isEmpty()) {
            return -1;
        }
        int[] frame = frames.poll();
        if (frame[22] * 256 + frame[23] != check(frame)) {
            bad++;
            return -2;
        }
        int from = 0;
        boolean first = before == null;
        boolean isGap = !first && (before + 1) % 256 != frame[0];
        if (isGap) {
            gaps++;
        }
        if (first || isGap) {
            piece = new ArrayList<>();
            from = frame[3] > 17 ? 18 : frame[3];
        }
        before = frame[0];
        report(frame[1], frame[2]);
        int whole = 0;
        for (int i = from; i < 18; i++) {
            piece.add(frame[4 + i]);
            if (piece.size() == 1 && !in(piece.get(0), 10, 25) || piece.size() == 5 && !in(piece.get(4), 1, 4)) {
                piece = new ArrayList<>();
                break;
            }
            if (piece.size() > 5 && piece.size() == 5 + piece.get(4)) {
                whole++;
                if (archive.size() < 60) {
                    archive.add(piece);
                }
                piece = new ArrayList<>();
            }
        }
        return whole;
    }

    private void report(int number, int flag) {
        if (!kept.isEmpty()) {
            int ahead = Math.floorMod(number - kept.get(0).number, 256);
            if (ahead <= kept.size()) {
                for (int i = 0; i < ahead; i++) {
                    toSend.remove(kept.remove(0));
                }
            }
        }
        if (flag == 1) {
            toSend.clear();
            toSend.addAll(kept);
        }
    }

    int packet(int i) {
        if (!in(i, 0, archive.size() - 1)) {
            return -1;
        }
        out = archive.get(i);
        return out.size();
    }

    int command() {
        if (kept.size() == 8) {
            return -4;
        }
        Reader reader = new Reader(takeTape());
        int k = -1;
        int n = -1;
        Line line;
        try {
            String verb = reader.word("on", "off", "set", "add", "emit", "mode", "run", "kill", "line", "ready");
            if (verb.equals("line")) {
                reader.sign(' ');
                k = reader.number(0, 7);
                reader.sign(' ');
                n = reader.number(0, 29);
                reader.sign(' ');
                line = reader.line();
            } else {
                line = reader.rest(verb);
            }
            reader.over();
        } catch (Wrong e) {
            return -1000 - e.place;
        }
        Command command = new Command(told % 256, k, n, line);
        told++;
        kept.add(command);
        toSend.add(command);
        return command.number;
    }

    int send(int how) {
        if (!in(how, 0, 2) || toSend.isEmpty() || !seen()) {
            return -1;
        }
        Command command = toSend.remove(0);
        boolean accepted = false;
        for (int i = 0; i < new int[] {1, 0, 2}[how]; i++) {
            accepted |= comes(command);
        }
        return accepted ? 1 : 0;
    }

    private boolean comes(Command command) {
        if (command.number != awaited) {
            flags = 1;
            return false;
        }
        awaited = (awaited + 1) % 256;
        flags = 0;
        try {
            if (command.k >= 0) {
                programs[command.k].draft.put(command.n, command.line);
            } else if (command.line.verb.equals("ready")) {
                ready(programs[command.line.number]);
            } else {
                perform(command.line);
            }
        } catch (Lost e) {
            events++;
        }
        return true;
    }

    private void ready(Program p) {
        if (p.draft.containsKey(0)) {
            p.lines = new ArrayList<>();
            while (p.draft.containsKey(p.lines.size())) {
                p.lines.add(p.draft.get(p.lines.size()));
            }
            p.draft.clear();
            p.runs = false;
        }
    }

    int ground(int what) {
        int[] answers = {gaps, bad, archive.size(), kept.size(), toSend.size(), told % 256};
        return in(what, 0, 5) ? answers[what] : -1;
    }

    // ---- passes, ways

    int pass(int s, int from, int to, int worth) {
        if (!in(s, 0, 3) || !in(from, 0, 99999) || !in(to, 0, 99999) || to <= from || !in(worth, 1, 99)) {
            return -1;
        }
        if (passes.size() == 12) {
            return -4;
        }
        passes.add(new Pass(s, from, to, worth));
        return passes.size() - 1;
    }

    int gap(int g) {
        if (!in(g, 0, 999)) {
            return -1;
        }
        int was = gap;
        gap = g;
        return was;
    }

    int clear() {
        int was = passes.size();
        passes.clear();
        return was;
    }

    private boolean fits(List<Integer> choice, int i) {
        for (int j : choice) {
            Pass a = passes.get(i);
            Pass b = passes.get(j);
            int between = Math.max(a.from, b.from) - Math.min(a.to, b.to);
            if (between < (a.station == b.station ? 0 : gap)) {
                return false;
            }
        }
        return true;
    }

    private int worth(List<Integer> choice) {
        return choice.stream().mapToInt(i -> passes.get(i).worth).sum();
    }

    /** By numbers in their order: a list that has the lesser number first is the one that has the least in which they differ. */
    private void choices(int i, List<Integer> choice, TreeMap<String, List<Integer>> all) {
        if (i == passes.size()) {
            StringBuilder key = new StringBuilder(String.format("%06d %02d ", 100000 - worth(choice), choice.size()));
            for (int j = 0; j < 12; j++) {
                key.append(choice.contains(j) ? '0' : '1');
            }
            all.put(key.toString(), new ArrayList<>(choice));
            if (all.size() > 1) {
                all.pollLastEntry();
            }
            return;
        }
        choices(i + 1, choice, all);
        if (fits(choice, i)) {
            choice.add(i);
            choices(i + 1, choice, all);
            choice.remove(choice.size() - 1);
        }
    }

    int best(int what) {
        TreeMap<String, List<Integer>> all = new TreeMap<>();
        choices(0, new ArrayList<>(), all);
        List<Integer> best = all.firstEntry().getValue();
        if (what == 100) {
            return worth(best);
        }
        if (what == 101) {
            return best.size();
        }
        return in(what, 0, passes.size() - 1) ? Collections.frequency(best, what) : -1;
    }

    int bar(int column, int row, boolean is) {
        if (!in(column, 0, 23) || !in(row, 0, 11)) {
            return -1;
        }
        int was = barred[column][row] ? 1 : 0;
        barred[column][row] = is;
        return was;
    }

    /** Goes out from the start and keeps for each field the first way of the fewest turns (0 up, 1 left, 2 right, 3 down). */
    int way(int column, int row, int toColumn, int toRow) {
        if (!in(column, 0, 23) || !in(row, 0, 11) || !in(toColumn, 0, 23) || !in(toRow, 0, 11)
            || barred[column][row] || barred[toColumn][toRow]) {
            return -1;
        }
        Map<Integer, String> found = new HashMap<>(Map.of(row * 24 + column, ""));
        Map<Integer, String> edge = found;
        int goal = toRow * 24 + toColumn;
        while (!found.containsKey(goal) && !edge.isEmpty()) {
            Map<Integer, String> further = new HashMap<>();
            for (Map.Entry<Integer, String> e : edge.entrySet()) {
                for (int side = 0; side < 4; side++) {
                    int r = e.getKey() / 24 + new int[] {-1, 0, 0, 1}[side];
                    int c = Math.floorMod(e.getKey() % 24 + new int[] {0, -1, 1, 0}[side], 24);
                    if (in(r, 0, 11) && !barred[c][r] && !found.containsKey(r * 24 + c)) {
                        further.merge(r * 24 + c, e.getValue() + side, (x, y) -> x.compareTo(y) < 0 ? x : y);
                    }
                }
            }
            found = new HashMap<>(found);
            found.putAll(further);
            edge = further;
        }
        if (!found.containsKey(goal)) {
            return -1;
        }
        write(found.get(goal).replace('0', 'u').replace('1', 'l').replace('2', 'r').replace('3', 'd'));
        return out.size();
    }
}
