import java.nio.charset.StandardCharsets;

/** A house under test: feeds texts, reads THE OUT, and notes each answer that is not the one that is due. */
final class Probe {
    /** More than is ever written: a wrong program must not hold up the tests. */
    private static final int MOST_OUT = 2000;
    private static int wrong;
    private static int asked;
    private static String about = "";

    final MissionHouse house = new MissionHouse();

    /** What is tested by all that follows; it is told ahead of each answer that is wrong. */
    static void about(String sentence) {
        about = sentence + ": ";
    }

    static void is(String what, long got, long want) {
        asked++;
        if (got != want) {
            wrong++;
            System.out.println(about + what + ": answered " + got + ", due is " + want);
        }
    }

    static void is(String what, String got, String want) {
        asked++;
        if (!got.equals(want)) {
            wrong++;
            System.out.println(about + what + ": answered '" + got + "', due is '" + want + "'");
        }
    }

    /** A ship that a station sees always. */
    static Probe seen() {
        Probe p = new Probe();
        p.house.station(0, 0, 3600, 0);
        return p;
    }

    /** A ship that is seen, its LOAD 0 on, so that each tick sends a frame down: so many wait. */
    static Probe sending(int frames) {
        Probe p = seen();
        p.sent("on 0");
        p.house.tick(frames);
        return p;
    }

    /** Program 0 has this text and is begun at CLOCK 1. */
    static Probe begun(String text) {
        Probe p = new Probe();
        p.program(0, text);
        p.house.due(1, 0);
        return p;
    }

    static void finish(String name) {
        System.out.println(name + ": " + asked + " asked, " + wrong + " wrong");
        if (wrong > 0 || asked == 0) {
            System.exit(1);
        }
    }

    /** Puts a text behind what is on the tape. */
    Probe tape(String text) {
        byte[] bytes = text.getBytes(StandardCharsets.ISO_8859_1);
        int before = house.feed(0, 0, 0, 0, 0) - 20;
        house.end(before);
        for (int from = 0; from < bytes.length; from += 20) {
            house.feed(four(bytes, from), four(bytes, from + 4), four(bytes, from + 8),
                four(bytes, from + 12), four(bytes, from + 16));
        }
        house.end(before + bytes.length);
        return this;
    }

    private static int four(byte[] bytes, int from) {
        int value = 0;
        for (int i = from; i < from + 4; i++) {
            value = value << 8 | (i < bytes.length ? bytes[i] & 255 : 0);
        }
        return value;
    }

    int tapeSize() {
        int size = house.feed(0, 0, 0, 0, 0) - 20;
        house.end(size);
        return size;
    }

    int date(String text) {
        return tape(text).house.date();
    }

    int program(int k, String text) {
        return tape(text).house.program(k);
    }

    int monitor(int k, int n, int act, String text) {
        return tape(text).house.monitor(k, n, act);
    }

    int command(String text) {
        return tape(text).house.command();
    }

    /** Tells a command and sends it up well. */
    int sent(String text) {
        command(text);
        return house.send(0);
    }

    int[] oldestFrame() {
        int[] frame = new int[24];
        for (int i = 0; i < 24; i++) {
            frame[i] = house.noise(i, 0);
        }
        return frame;
    }

    /** Makes the oldest frame what the bytes say, from a place on, with a right CHECK. */
    Probe forge(int from, int... bytes) {
        int[] frame = oldestFrame();
        for (int i = 0; i < bytes.length; i++) {
            house.noise(from + i, frame[from + i] ^ bytes[i]);
            frame[from + i] = bytes[i];
        }
        int check = Crc.of(frame);
        house.noise(22, frame[22] ^ check >> 8);
        house.noise(23, frame[23] ^ check & 255);
        return this;
    }

    /** Whether a program runs, the line that is next, and how long it waits. */
    void state(int k, int runs, int next, int waits) {
        is("runs " + k, house.runs(k, 1), runs);
        is("next " + k, house.runs(k, 2), next);
        is("waits " + k, house.runs(k, 3), waits);
    }

    /** How many commands are kept, how many of them are to be sent, and the next number. */
    void commands(int kept, int toSend, int next) {
        is("kept", house.ground(3), kept);
        is("to be sent", house.ground(4), toSend);
        is("the next number", house.ground(5), next);
    }

    void awaits(int number, int flags) {
        is("awaited", house.ship(11), number);
        is("FLAGS", house.ship(12), flags);
    }

    void way(int column, int row, int toColumn, int toRow, String due) {
        String what = "way " + column + " " + row + " to " + toColumn + " " + toRow;
        is(what, house.way(column, row, toColumn, toRow), due.length());
        is(what, out(), due);
    }

    void variable(int v, int due) {
        is("v" + v, house.word(v, 1), due);
    }

    String out() {
        StringBuilder text = new StringBuilder();
        for (int i = 0; i < MOST_OUT && house.out(i) != MissionHouse.NONE; i++) {
            text.append((char) house.out(i));
        }
        return text.toString();
    }

    String outNumbers() {
        StringBuilder text = new StringBuilder();
        for (int i = 0; i < MOST_OUT && house.out(i) != MissionHouse.NONE; i++) {
            text.append(i == 0 ? "" : " ").append(house.out(i));
        }
        return text.toString();
    }
}
