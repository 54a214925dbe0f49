/** Promises 17 and 22: flip, word; and the reading of memory at each tick. */
final class MemoryTest {
    public static void main(String[] args) {
        edges();
        codes();
        oneWrongBit();
        twoWrongBits();
        threeWrongBits();
        mending();
        Probe.finish("MemoryTest");
    }

    private static void edges() {
        MissionHouse house = new MissionHouse();
        Probe.is("word -1", house.flip(-1, 0), -1);
        Probe.is("word 64", house.flip(64, 0), -1);
        Probe.is("bit -1", house.flip(0, -1), -1);
        Probe.is("bit 13", house.flip(0, 13), -1);
        Probe.is("bit 0", house.flip(63, 0), 1);
        Probe.is("bit 12", house.flip(63, 12), 4097);
        Probe.is("back", house.flip(63, 0), 4096);
        Probe.is("word -1", house.word(-1, 0), -1);
        Probe.is("word 64", house.word(64, 0), -1);
        Probe.is("what -1", house.word(0, -1), -1);
        Probe.is("what 2", house.word(0, 2), -1);
        Probe.is("the others stay", house.word(62, 0), 0);
    }

    private static Probe with(int value) {
        Probe p = new Probe();
        p.program(0, "set v3 " + value + "\n");
        p.house.due(1, 0);
        p.house.tick(1);
        return p;
    }

    private static void codes() {
        // bits at 3 5 6 7 9 10 11 12; 1: at 3 (1 + 2); so checks 1 and 2, and bit 0 for the even sum
        Probe.is("1", with(1).house.word(3, 0), 1 << 3 | 1 << 1 | 1 << 2 | 1);
        // 128: at 12 (4 + 8)
        Probe.is("128", with(128).house.word(3, 0), 1 << 12 | 1 << 4 | 1 << 8 | 1);
        // 8: at 7 (1 + 2 + 4): even already
        Probe.is("8", with(8).house.word(3, 0), 1 << 7 | 1 << 1 | 1 << 2 | 1 << 4);
        // 255: 3^5^6^7^9^10^11^12 = 3: checks 1 and 2
        Probe.is("255", with(255).house.word(3, 0), 0b1111011101110);
        for (int value = 0; value < 256; value++) {
            Probe.is("byte", with(value).house.word(3, 1), value);
        }
    }

    private static void oneWrongBit() {
        for (int value = 0; value < 256; value += 51) {
            for (int bit = 0; bit < 13; bit++) {
                Probe p = with(value);
                int right = p.house.word(3, 0);
                Probe.is("flipped", p.house.flip(3, bit), right ^ 1 << bit);
                Probe.is("read", p.house.word(3, 1), value);
                Probe.is("reading writes nothing", p.house.word(3, 0), right ^ 1 << bit);
                Probe.is("not mended yet", p.house.ship(7), 0);
                p.house.tick(1);
                Probe.is("clock 2 reads word 2", p.house.ship(7), 0);
                p.house.tick(1);
                Probe.is("clock 3 reads word 3", p.house.ship(7), 1);
                Probe.is("written anew", p.house.word(3, 0), right);
                Probe.is("none lost", p.house.ship(8), 0);
                Probe.is("no event", p.house.ship(6), 0);
            }
        }
    }

    private static void twoWrongBits() {
        for (int a = 0; a < 13; a++) {
            for (int b = 0; b < a; b++) {
                Probe p = with(200);
                p.house.flip(3, a);
                p.house.flip(3, b);
                Probe.is("lost", p.house.word(3, 1), -3);
                p.house.tick(2);
                Probe.is("byte 0 then", p.house.word(3, 0), 0);
                Probe.is("byte 0 then", p.house.word(3, 1), 0);
                Probe.is("lost", p.house.ship(8), 1);
                Probe.is("an event", p.house.ship(6), 1);
                Probe.is("not mended", p.house.ship(7), 0);
            }
        }
    }

    /** Three wrong bits look like one, unless they point above 12. */
    private static void threeWrongBits() {
        MissionHouse house = new MissionHouse();
        house.flip(9, 12);
        house.flip(9, 1);
        house.flip(9, 0);
        Probe.is("12 ^ 1 = 13 is no place", house.word(9, 1), -3);
        house.flip(9, 0);
        house.flip(9, 2);
        Probe.is("12 ^ 1 ^ 2 = 15 is none", house.word(9, 1), -3);
        house.flip(9, 1);
        house.flip(9, 0);
        Probe.is("12 ^ 2 = 14 is none", house.word(9, 1), -3);
        house.flip(9, 2);
        house.flip(9, 3);
        Probe.is("12 ^ 3 = 15 is none", house.word(9, 1), -3);
        house.flip(9, 3);
        house.flip(9, 4);
        Probe.is("12 ^ 4 = 8 is turned: 12, 4, 8 are the byte 128", house.word(9, 1), 128);
    }

    private static void mending() {
        MissionHouse house = new MissionHouse();
        house.flip(0, 5);
        house.flip(63, 5);
        house.tick(62);
        Probe.is("neither yet", house.ship(7), 0);
        house.tick(1);
        Probe.is("63 at 63", house.ship(7), 1);
        house.tick(1);
        Probe.is("0 at 64", house.ship(7), 2);
        house.flip(0, 5);
        house.tick(63);
        Probe.is("not again yet", house.ship(7), 2);
        house.tick(1);
        Probe.is("at 128", house.ship(7), 3);
    }
}
