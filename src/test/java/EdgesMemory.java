/** Part V, and promises 17 and 22: flip, word, and what a TICK does to memory. */
final class EdgesMemory {
    private static final int[] PLACES = {3, 5, 6, 7, 9, 10, 11, 12};

    static void all() {
        flips();
        words();
        atFirst();
        codes();
        reading();
        mending();
        variables();
    }

    private static void flips() {
        Doc.says("Promise 17", "A bit (0 .. 12) of a WORD turns: what the WORD's bits are then; NONE if there is none such.");
        Twins.beyond("WORD", 0, 63, (house, x) -> house.flip(x, 0));
        Twins.beyond("bit", 0, 12, (house, x) -> house.flip(0, x));
        Twins.beyond("bit", 0, 12, (house, x) -> house.flip(63, x));
        for (int word = 0; word < 64; word += 21) {
            MissionHouse house = new MissionHouse();
            for (int bit = 0; bit < 13; bit++) {
                Probe.is("turned", house.flip(word, bit), (1 << bit + 1) - 1);
            }
            Probe.is("all 13", house.word(word, 0), 8191);
            for (int bit = 12; bit >= 0; bit--) {
                Probe.is("turned back", house.flip(word, bit), (1 << bit) - 1);
            }
            for (int other = 0; other < 64; other++) {
                Probe.is("no other", house.word(other, 0), 0);
            }
        }
    }

    private static void words() {
        Doc.says("Promise 22", "NONE if there is none such.");
        Twins.beyond("WORD", 0, 63, (house, x) -> house.word(x, 0));
        Twins.beyond("WORD", 0, 63, (house, x) -> house.word(x, 1));
        Twins.beyond("what", 0, 1, (house, x) -> house.word(0, x));
        Doc.says("Promise 22", "Of a WORD, what 0: its 13 bits, 1: its byte by READING, STATE if it is LOST.");
        for (int word : new int[] {0, 63}) {
            MissionHouse house = new MissionHouse();
            house.flip(word, 12);
            Probe.is("its bits", house.word(word, 0), 4096);
            Probe.is("its byte", house.word(word, 1), 0);
            house.flip(word, 11);
            Probe.is("its bits", house.word(word, 0), 6144);
            Probe.is("LOST", house.word(word, 1), -3);
        }
    }

    private static void atFirst() {
        Doc.says("Part V", "At first all are byte 0.");
        MissionHouse house = new MissionHouse();
        for (int word = 0; word < 64; word++) {
            Probe.is("bits", house.word(word, 0), 0);
            Probe.is("byte", house.word(word, 1), 0);
        }
        house.tick(64);
        Probe.is("none is wrong", house.ship(7) + house.ship(8), 0);
    }

    /** The code of a byte, by the sums that the document tells. */
    private static int code(int value) {
        int bits = 0;
        for (int i = 0; i < 8; i++) {
            bits |= (value >> i & 1) << PLACES[i];
        }
        int data = bits;
        for (int check = 1; check <= 8; check *= 2) {
            int sum = 0;
            for (int place = 1; place <= 12; place++) {
                sum += place != check && (place & check) != 0 ? data >> place & 1 : 0;
            }
            bits |= sum % 2 << check;
        }
        return bits | Integer.bitCount(bits) % 2;
    }

    private static void codes() {
        Doc.says("Part V", "MEMORY: 64 WORDS of 13 bits: bits 1 .. 12 a code with the byte's bits, lowest first, at 3 5 6 7 9 10 11 12, and at 1, 2, 4, 8"
            + " each the sum mod 2 of the others of 1 .. 12 whose place has that bit; bit 0 makes the sum of all 13 even.");
        for (int value = 0; value < 256; value++) {
            Probe p = Probe.seen();
            p.sent("set v7 " + value);
            Probe.is("bits of " + value, p.house.word(7, 0), code(value));
            Probe.is("byte", p.house.word(7, 1), value);
        }
    }

    /** What the document reads in 13 bits; STATE if they are LOST. */
    private static int byteOf(int bits) {
        int s = 0;
        for (int place = 1; place <= 12; place++) {
            s ^= (bits >> place & 1) * place;
        }
        int right = bits;
        if (Integer.bitCount(bits) % 2 == 1) {
            if (s > 12) {
                return -3;
            }
            right ^= 1 << s;
        } else if (s != 0) {
            return -3;
        }
        int value = 0;
        for (int i = 0; i < 8; i++) {
            value |= (right >> PLACES[i] & 1) << i;
        }
        return value;
    }

    /** All that 13 bits can be, by turning one at a time. */
    private static void reading() {
        Doc.says("Part V", "READING a WORD: with s the exclusive-or of the places 1 .. 12 that are 1, and p the sum of all 13 mod 2: s 0, p 0: its byte;"
            + " p 1: the bit at s (0: bit 0) is wrong, its byte is that with it turned, if s is not above 12, else it is LOST; p 0, s not 0: LOST.");
        Probe.is("12, 1 and 0: s 13", byteOf(1 << 12 | 1 << 1 | 1), -3);
        Probe.is("12, 4 and 8 but for 0: s 0", byteOf(1 << 12 | 1 << 4 | 1 << 8), 128);
        for (int from = 0; from < 8192; from += 256) {
            MissionHouse house = new MissionHouse();
            for (int bit = 0; bit < 13; bit++) {
                if ((gray(from) >> bit & 1) == 1) {
                    house.flip(40, bit);
                }
            }
            for (int i = from; i < from + 240; i++) {
                Probe.is("bits", house.word(40, 0), gray(i));
                Probe.is("byte of " + gray(i), house.word(40, 1), byteOf(gray(i)));
                house.flip(40, Integer.numberOfTrailingZeros(gray(i) ^ gray(i + 1)));
            }
        }
        Doc.says("Part V", "Reading alone writes nothing.");
        MissionHouse house = new MissionHouse();
        house.flip(9, 4);
        house.word(9, 1);
        Probe.is("a wrong bit stays", house.word(9, 0), 16);
        house.flip(9, 5);
        house.word(9, 1);
        Probe.is("two stay", house.word(9, 0), 48);
        Probe.is("none is MENDED", house.ship(7), 0);
        Probe.is("none is LOST", house.ship(8), 0);
        Probe.is("no EVENT", house.ship(6), 0);
        Probe p = Probe.begun("if v0 = 0 go 1\nemit 0\nadd v1 0\n");
        p.house.flip(0, 4);
        p.house.tick(1);
        Probe.is("a program that reads writes nothing", p.house.word(0, 0), 16);
        Probe.is("nor is it MENDED", p.house.ship(7), 0);
    }

    private static int gray(int i) {
        return i ^ i >> 1;
    }

    private static void mending() {
        Doc.says("Part V", "At a TICK the WORD THE CLOCK mod 64 is read: one that has a wrong bit is written anew (MENDED is one more),"
            + " one LOST becomes byte 0 (LOST is one more, an EVENT).");
        for (int word = 0; word < 64; word++) {
            MissionHouse house = new MissionHouse();
            house.flip(word, word % 13);
            house.tick(word == 0 ? 63 : word - 1);
            Probe.is("not yet", house.ship(7), 0);
            house.tick(1);
            Probe.is("MENDED", house.ship(7), 1);
            Probe.is("written anew", house.word(word, 0), 0);
            house.flip(word, 12);
            house.flip(word, word % 12);
            house.tick(63);
            Probe.is("not yet", house.ship(8), 0);
            house.tick(1);
            Probe.is("LOST", house.ship(8), 1);
            Probe.is("an EVENT", house.ship(6), 1);
            Probe.is("byte 0", house.word(word, 0), 0);
            Probe.is("not MENDED", house.ship(7), 1);
            house.tick(64);
            Probe.is("no more of it", house.ship(7) + house.ship(8) + house.ship(6), 3);
        }
        Probe p = Probe.seen();
        p.sent("set v5 129");
        for (int bit = 0; bit < 13; bit++) {
            p.house.flip(5, bit);
            p.house.tick(64);
            Probe.is("bit " + bit + " is right again", p.house.word(5, 0), code(129));
            Probe.is("MENDED", p.house.ship(7), bit + 1);
        }
        p.house.flip(5, 12);
        p.house.flip(5, 8);
        p.house.flip(5, 4);
        Probe.is("three wrong ones look like the one at 0", p.house.word(5, 1), 1);
        p.house.tick(64);
        Probe.is("and are written so", p.house.word(5, 0), code(1));
    }

    private static void variables() {
        Doc.says("Part V", "V0 .. V7 are WORDS 0 .. 7.");
        for (int v = 0; v < 8; v++) {
            Probe p = Probe.begun("set v" + v + " " + (200 + v) + "\n");
            p.house.tick(1);
            for (int word = 0; word < 64; word++) {
                Probe.is("WORD " + word, p.house.word(word, 1), word == v ? 200 + v : 0);
            }
        }
    }
}
