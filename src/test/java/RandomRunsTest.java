import java.util.ArrayList;
import java.util.List;
import java.util.Random;

/** All promises: the class and the Model answer random runs of calls alike. */
final class RandomRunsTest {
    private static final String[] THINGS = {"bat", "sun", "used", "mode", "rec", "fix", "ev", "turn", "seen",
        "v0", "v1", "v2", "v3", "v4", "v5", "v6", "v7"};

    private final Random random;
    private final MissionHouse house = new MissionHouse();
    private final Model model = new Model();
    private final List<String> calls = new ArrayList<>();
    private boolean differs;

    private RandomRunsTest(long seed) {
        random = new Random(seed);
    }

    public static void main(String[] args) {
        int runs = args.length > 0 ? Integer.parseInt(args[0]) : 3000;
        int wrong = 0;
        long calls = 0;
        for (int seed = 0; seed < runs && wrong < 5; seed++) {
            RandomRunsTest run = new RandomRunsTest(seed);
            run.all(seed % 6);
            calls += run.calls.size();
            if (run.differs) {
                wrong++;
                System.out.println("run " + seed + ":");
                for (String call : run.calls.subList(Math.max(0, run.calls.size() - 60), run.calls.size())) {
                    System.out.println("  " + call);
                }
            }
        }
        System.out.println("RandomRunsTest: " + calls + " calls, " + wrong + " runs wrong");
        if (wrong > 0 || calls == 0) {
            System.exit(1);
        }
    }

    private void all(int flavour) {
        if (flavour != 0) {
            prepare();
        }
        for (int i = 0; i < 150 && !differs; i++) {
            switch (flavour) {
                case 1: onBoard(); break;
                case 2: down(); break;
                case 3: up(); break;
                case 4: plans(); break;
                case 5: texts(); break;
                default: any();
            }
            if (random.nextInt(40) == 0) {
                look();
            }
        }
        look();
    }

    private void same(String call, int got, int due) {
        calls.add(call + " = " + got + (got == due ? "" : ", due is " + due));
        differs |= got != due;
    }

    private int below(int n) {
        return random.nextInt(n);
    }

    private boolean rarely(int n) {
        return random.nextInt(n) == 0;
    }

    /** A number from low to high, at times one beyond, or an edge. */
    private int near(int low, int high) {
        switch (below(24)) {
            case 0: return low - 1;
            case 1: return high + 1;
            case 2: return low;
            case 3: return high;
            case 4: return new int[] {Integer.MIN_VALUE, Integer.MAX_VALUE, -1, 0}[below(4)];
            default: return low + below(high - low + 1);
        }
    }

    private void prepare() {
        int period = rarely(2) ? 60 + below(300) : 60 + below(6000);
        orbit(period, below(3600), below(3600), below(3601));
        station(0, below(3600), 1800 + below(1801), below(3600));
        for (int i = below(3); i > 0; i--) {
            station(1 + below(3), below(3600), below(1000), below(3600));
        }
        power(below(3000), below(200));
        for (int i = 0; i < 8; i++) {
            load(i, below(60), below(10));
        }
        load(0, below(3), 0);
        for (int i = 0; i < 4; i++) {
            mode(i, below(256) | 1, below(256));
        }
    }

    private void any() {
        switch (below(5)) {
            case 0: onBoard(); break;
            case 1: down(); break;
            case 2: up(); break;
            case 3: plans(); break;
            default: texts();
        }
    }

    private void onBoard() {
        switch (below(16)) {
            case 0: case 1: program(near(0, 7), programText()); break;
            case 2: due(house.ship(0) + near(1, 20), near(0, 7)); break;
            case 3: monitor(near(0, 7), rarely(2) ? 1 + below(4) : near(1, 99), near(0, 8), rarely(8) ? "" : condition()); break;
            case 4: mode(near(0, 3), near(0, 255), near(0, 255)); break;
            case 5: case 6: flip(rarely(2) ? below(8) : near(0, 63), near(0, 12)); break;
            case 7: load(near(0, 7), rarely(3) ? near(0, 1000) : below(80), near(0, 9)); break;
            case 8: power(rarely(2) ? below(2000) : near(0, 1000000), rarely(3) ? near(0, 10000) : below(200)); break;
            case 9: case 10: case 11: case 12: tick(rarely(8) ? near(0, 500) : below(8)); break;
            case 13: orbit(rarely(2) ? near(60, 20000) : 60 + below(200), near(0, 3599), near(0, 3599), near(0, 3600)); break;
            case 14: station(near(0, 3), near(0, 3599), near(0, 3600), near(0, 3599)); break;
            default: sight(near(0, 3), rarely(2));
        }
    }

    private void down() {
        switch (below(12)) {
            case 0: program(below(8), "emit " + below(16) + "\nadd v" + below(4) + " 77\nwait " + (1 + below(2)) + "\ngo 0\n"); break;
            case 1: program(below(8), programText()); break;
            case 2: due(house.ship(0) + 1 + below(3), below(8)); break;
            case 3: tick(rarely(10) ? below(90) : below(6)); break;
            case 4: noise(near(0, 23), near(0, 255)); break;
            case 5: forge(); break;
            case 6: lose(); break;
            case 7: case 8: case 9: receive(); break;
            case 10: packet(near(0, Math.max(0, house.ground(2)))); break;
            default: command("on 0"); send(0); flip(below(4), below(13));
        }
    }

    private void up() {
        switch (below(10)) {
            case 0: case 1: case 2: case 3: command(commandText()); break;
            case 4: case 5: case 6: send(rarely(3) ? near(0, 2) : 0); break;
            case 7: tick(below(3)); break;
            case 8: receive(); break;
            default: down();
        }
    }

    private void plans() {
        switch (below(8)) {
            case 0: case 1: case 2:
                int from = rarely(8) ? near(0, 99999) : below(200);
                pass(near(0, 3), from, from + (rarely(8) ? near(1, 50) : 1 + below(60)), rarely(2) ? 1 + below(4) : near(1, 99));
                break;
            case 3: gap(rarely(3) ? near(0, 999) : below(30)); break;
            case 4: best(rarely(2) ? near(0, 11) : 99 + below(4)); break;
            case 5: if (rarely(6)) { clear(); } break;
            case 6: for (int i = 0; i < 12; i++) { bar(near(0, 23), near(0, 11), !rarely(4)); } break;
            default: way(near(0, 23), near(0, 11), near(0, 23), near(0, 11));
        }
    }

    private void texts() {
        switch (below(6)) {
            case 0: leap(rarely(2) ? 2000 + below(60) : near(2000, 2059), rarely(6) ? near(1, 12) : 6 + 6 * below(2)); break;
            case 1: date(dateText()); break;
            case 2: written(rarely(3) ? near(0, 1893456010) : below(60 * 366) * 86400 - 1 + below(14)); break;
            case 3: program(below(8), programText()); break;
            case 4: command(commandText()); break;
            default: monitor(below(8), 1, 8, broken(condition()));
        }
    }

    private void look() {
        for (int what = -1; what <= 15; what++) {
            same("ship(" + what + ")", house.ship(what), model.ship(what));
        }
        for (int i = -1; i <= 8; i++) {
            for (int what = -1; what <= 4; what++) {
                same("served(" + i + ", " + what + ")", house.served(i, what), model.served(i, what));
                same("runs(" + i + ", " + what + ")", house.runs(i, what), model.runs(i, what));
                same("ground(" + what + ")", house.ground(what + 2), model.ground(what + 2));
            }
        }
        for (int i = -1; i <= 64; i++) {
            for (int what = -1; what <= 2; what++) {
                same("word(" + i + ", " + what + ")", house.word(i, what), model.word(i, what));
            }
        }
        for (int i = -1; i <= house.ground(2); i++) {
            packet(i);
        }
        for (int what = 0; what < 12; what++) {
            best(what);
        }
        best(100);
        best(101);
    }

    // ---- texts

    private String number(int low, int high) {
        int value = rarely(30) ? near(low, high) : low + below(high - low + 1);
        return String.valueOf(value);
    }

    private String condition() {
        String thing = THINGS[below(THINGS.length)];
        int value;
        switch (thing) {
            case "bat": value = below(1500); break;
            case "sun": case "used": value = below(200); break;
            case "rec": value = below(300); break;
            case "v0": case "v1": case "v2": case "v3": value = below(256); break;
            default: value = below(4);
        }
        return thing + " " + "=<>".charAt(below(3)) + " " + (rarely(15) ? near(-99999, 99999) : value);
    }

    private String line(int lines) {
        switch (below(15)) {
            case 0: return "on " + number(0, 7);
            case 1: return "off " + number(0, 7);
            case 2: return "wait " + (rarely(10) ? number(1, 9999) : 1 + below(4));
            case 3: return "until " + condition();
            case 4: case 5: return "if " + condition() + " go " + number(0, rarely(6) ? 29 : lines);
            case 6: return "go " + number(0, rarely(6) ? 29 : lines);
            case 7: return "set v" + below(8) + " " + number(0, 255);
            case 8: case 9: return "add v" + below(8) + " " + number(0, 255);
            case 10: return "emit " + number(0, 15);
            case 11: return rarely(3) ? "mode " + number(0, 3) : "emit " + number(0, 15);
            case 12: return "run " + number(0, 7);
            case 13: return "kill " + number(0, 7);
            default: return rarely(2) ? "end" : "emit " + below(16);
        }
    }

    private String programText() {
        int lines = rarely(10) ? 27 + below(6) : 1 + below(12);
        StringBuilder text = new StringBuilder();
        for (int i = 0; i < lines; i++) {
            text.append(line(lines - 1)).append('\n');
        }
        return rarely(3) ? broken(text.toString()) : text.toString();
    }

    private String commandText() {
        String text;
        switch (below(8)) {
            case 0: case 1: text = "line " + number(0, rarely(4) ? 7 : 1) + " " + number(0, rarely(4) ? 29 : 4) + " " + line(5); break;
            case 2: text = "ready " + number(0, rarely(4) ? 7 : 1); break;
            case 3: text = "run " + number(0, 7); break;
            case 4: text = "emit " + number(0, 15); break;
            default: text = line(8);
        }
        return rarely(4) ? broken(text) : text;
    }

    private String dateText() {
        String text;
        if (rarely(3) && house.written(below(1893456000)) == 19) {
            StringBuilder read = new StringBuilder();
            for (int i = 0; i < 19; i++) {
                read.append((char) house.out(i));
            }
            model.written(0);
            written(5);
            text = read.toString();
        } else if (rarely(2)) {
            boolean june = rarely(2);
            text = String.format("%04d-%sT23:59:%02d", 2000 + below(60), june ? "06-30" : "12-31", 58 + below(4));
        } else {
            text = String.format("%04d-%02d-%02dT%02d:%02d:%02d", 1999 + below(62), below(14), below(33), below(25), below(61), below(62));
        }
        return rarely(3) ? broken(text) : text;
    }

    private String broken(String text) {
        String bytes = "0123456789 -=<>\nabegnotvuwi\0\u00ff:TA";
        StringBuilder changed = new StringBuilder(text);
        for (int i = 1 + below(2); i > 0; i--) {
            int at = below(changed.length() + 1);
            char c = bytes.charAt(below(bytes.length()));
            switch (below(5)) {
                case 0: changed.setLength(at); break;
                case 1: changed.insert(at, c); break;
                case 2: if (at < changed.length()) { changed.deleteCharAt(at); } break;
                case 3: if (at < changed.length()) { changed.setCharAt(at, c); } break;
                default: numbersOnly(changed);
            }
        }
        return changed.toString();
    }

    /** Makes a digit many or none. */
    private void numbersOnly(StringBuilder text) {
        for (int tries = 0; tries < 5 && text.length() > 0; tries++) {
            int at = below(text.length());
            if (Character.isDigit(text.charAt(at))) {
                String[] digits = {"", "00", "0", "-1", "-0", "99", "123456789", "1234567890", "12345678901", "30", "8", "16", "256"};
                text.replace(at, at + 1, digits[below(digits.length)]);
                return;
            }
        }
    }

    private void tape(String text) {
        calls.add("tape '" + text.replace("\n", "/") + "'");
        int size = house.feed(0, 0, 0, 0, 0);
        same("feed", size, model.feed(0, 0, 0, 0, 0));
        int before = size < 0 ? 0 : size - 20;
        house.end(before);
        model.end(before);
        for (int from = 0; from < text.length(); from += 20) {
            int[] x = new int[5];
            for (int i = 0; i < 20; i++) {
                x[i / 4] = x[i / 4] << 8 | (from + i < text.length() ? text.charAt(from + i) : 7);
            }
            same("feed", house.feed(x[0], x[1], x[2], x[3], x[4]), model.feed(x[0], x[1], x[2], x[3], x[4]));
        }
        same("end", house.end(before + text.length()), model.end(before + text.length()));
    }

    /** Changes bytes of the oldest frame, and its CHECK with them, so that it is not BAD. */
    private void forge() {
        if (house.ship(14) == 0) {
            return;
        }
        int[] frame = new int[24];
        for (int i = 0; i < 24; i++) {
            frame[i] = house.noise(i, 0);
        }
        int old = Crc.of(frame);
        for (int n = 1 + below(2); n > 0; n--) {
            int i = rarely(2) ? below(4) : below(22);
            int x = below(256);
            if (i == 3 && rarely(2)) {
                x = frame[3] ^ below(20);
            }
            frame[i] ^= x;
            noise(i, x);
        }
        int change = old ^ Crc.of(frame);
        noise(22, change >> 8);
        noise(23, change & 255);
    }

    // ---- both

    private void out() {
        for (int i = -1; i < 290; i++) {
            int got = house.out(i);
            int due = model.out(i);
            if (got != due || i < 1) {
                same("out(" + i + ")", got, due);
            }
        }
    }

    private void leap(int year, int month) {
        same("leap(" + year + ", " + month + ")", house.leap(year, month), model.leap(year, month));
    }

    private void date(String text) {
        tape(text);
        same("date()", house.date(), model.date());
    }

    private void written(int second) {
        same("written(" + second + ")", house.written(second), model.written(second));
        out();
    }

    private void orbit(int a, int b, int c, int d) {
        same("orbit(" + a + ", " + b + ", " + c + ", " + d + ")", house.orbit(a, b, c, d), model.orbit(a, b, c, d));
    }

    private void station(int a, int b, int c, int d) {
        same("station(" + a + ", " + b + ", " + c + ", " + d + ")", house.station(a, b, c, d), model.station(a, b, c, d));
    }

    private void sight(int a, boolean b) {
        same("sight(" + a + ", " + b + ")", house.sight(a, b), model.sight(a, b));
    }

    private void power(int a, int b) {
        same("power(" + a + ", " + b + ")", house.power(a, b), model.power(a, b));
    }

    private void load(int a, int b, int c) {
        same("load(" + a + ", " + b + ", " + c + ")", house.load(a, b, c), model.load(a, b, c));
    }

    private void program(int k, String text) {
        tape(text);
        same("program(" + k + ")", house.program(k), model.program(k));
    }

    private void due(int a, int b) {
        same("due(" + a + ", " + b + ")", house.due(a, b), model.due(a, b));
    }

    private void mode(int a, int b, int c) {
        same("mode(" + a + ", " + b + ", " + c + ")", house.mode(a, b, c), model.mode(a, b, c));
    }

    private void monitor(int a, int b, int c, String text) {
        tape(text);
        same("monitor(" + a + ", " + b + ", " + c + ")", house.monitor(a, b, c), model.monitor(a, b, c));
    }

    private void flip(int a, int b) {
        same("flip(" + a + ", " + b + ")", house.flip(a, b), model.flip(a, b));
    }

    private void tick(int n) {
        same("tick(" + n + ")", house.tick(n), model.tick(n));
    }

    private void noise(int i, int x) {
        same("noise(" + i + ", " + x + ")", house.noise(i, x), model.noise(i, x));
    }

    private void lose() {
        same("lose()", house.lose(), model.lose());
    }

    private void receive() {
        same("receive()", house.receive(), model.receive());
    }

    private void packet(int i) {
        same("packet(" + i + ")", house.packet(i), model.packet(i));
        out();
    }

    private void command(String text) {
        tape(text);
        same("command()", house.command(), model.command());
    }

    private void send(int how) {
        same("send(" + how + ")", house.send(how), model.send(how));
    }

    private void pass(int a, int b, int c, int d) {
        same("pass(" + a + ", " + b + ", " + c + ", " + d + ")", house.pass(a, b, c, d), model.pass(a, b, c, d));
    }

    private void gap(int g) {
        same("gap(" + g + ")", house.gap(g), model.gap(g));
    }

    private void clear() {
        same("clear()", house.clear(), model.clear());
    }

    private void best(int what) {
        same("best(" + what + ")", house.best(what), model.best(what));
    }

    private void bar(int a, int b, boolean c) {
        same("bar(" + a + ", " + b + ", " + c + ")", house.bar(a, b, c), model.bar(a, b, c));
    }

    private void way(int a, int b, int c, int d) {
        same("way(" + a + ", " + b + ", " + c + ", " + d + ")", house.way(a, b, c, d), model.way(a, b, c, d));
        out();
    }
}
