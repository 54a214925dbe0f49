import java.nio.charset.StandardCharsets;

/** A house under test: feeds texts, reads THE OUT, and notes each answer that is not the one that is due. */
final class Probe {
    private static int wrong;
    private static int asked;

    final MissionHouse house = new MissionHouse();

    static void is(String what, long got, long want) {
        asked++;
        if (got != want) {
            wrong++;
            System.out.println(what + ": answered " + got + ", due is " + want);
        }
    }

    static void is(String what, String got, String want) {
        asked++;
        if (!got.equals(want)) {
            wrong++;
            System.out.println(what + ": answered '" + got + "', due is '" + want + "'");
        }
    }

    static void finish(String name) {
        System.out.println(name + ": " + asked + " asked, " + wrong + " wrong");
        if (wrong > 0 || asked == 0) {
            System.exit(1);
        }
    }

    /** Puts a text behind what is on the tape. */
    Probe tape(String text) {
        byte[] bytes = text.getBytes(StandardCharsets.ISO_8859_1);
        int before = house.feed(0, 0, 0, 0, 0) - 20;
        house.end(before);
        for (int from = 0; from < bytes.length; from += 20) {
            house.feed(four(bytes, from), four(bytes, from + 4), four(bytes, from + 8),
                four(bytes, from + 12), four(bytes, from + 16));
        }
        house.end(before + bytes.length);
        return this;
    }

    private static int four(byte[] bytes, int from) {
        int value = 0;
        for (int i = from; i < from + 4; i++) {
            value = value << 8 | (i < bytes.length ? bytes[i] & 255 : 0);
        }
        return value;
    }

    int tapeSize() {
        int size = house.feed(0, 0, 0, 0, 0) - 20;
        house.end(size);
        return size;
    }

    int date(String text) {
        return tape(text).house.date();
    }

    int program(int k, String text) {
        return tape(text).house.program(k);
    }

    int monitor(int k, int n, int act, String text) {
        return tape(text).house.monitor(k, n, act);
    }

    int command(String text) {
        return tape(text).house.command();
    }

    /** Tells a command and sends it up well. */
    int sent(String text) {
        command(text);
        return house.send(0);
    }

    String out() {
        StringBuilder text = new StringBuilder();
        for (int i = 0; house.out(i) != MissionHouse.NONE; i++) {
            text.append((char) house.out(i));
        }
        return text.toString();
    }

    String outNumbers() {
        StringBuilder text = new StringBuilder();
        for (int i = 0; house.out(i) != MissionHouse.NONE; i++) {
            text.append(i == 0 ? "" : " ").append(house.out(i));
        }
        return text.toString();
    }
}
