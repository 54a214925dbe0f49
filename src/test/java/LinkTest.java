/** Promises 23 to 26: noise, lose, receive, packet; and what is recorded and goes down. */
final class LinkTest {
    public static void main(String[] args) {
        packets();
        recorderGoes();
        recorderRefuses();
        bothMayBe();
        whenFramesGo();
        frames();
        manyFrames();
        order();
        bad();
        gaps();
        firsts();
        forgedPackets();
        checks();
        archives();
        Probe.finish("LinkTest");
    }

    private static String oldest(Probe p) {
        StringBuilder text = new StringBuilder();
        for (int i = 0; i < 22; i++) {
            text.append(i == 0 ? "" : " ").append(p.house.noise(i, 0));
        }
        return text.toString();
    }

    private static void packets() {
        Probe p = Probe.seen();
        p.program(0, "set v0 200\nset v1 3\nset v3 9\nemit 15\nemit 4\nemit 15\non 0\n");
        p.house.due(300, 0);
        p.house.tick(300);
        Probe.is("bytes", p.house.ship(9), 9 + 6 + 9);
        Probe.is("packets", p.house.ship(10), 3);
        p.house.tick(2);
        Probe.is("none is left", p.house.ship(10), 0);
        Probe.is("none is left", p.house.ship(9), 0);
        Probe.is("first frame", p.house.receive(), 2);
        Probe.is("second frame", p.house.receive(), 1);
        Probe.is("bytes", p.house.packet(0), 6);
        Probe.is("4 goes first", p.outNumbers(), "14 0 1 44 1 200");
        Probe.is("bytes", p.house.packet(1), 9);
        Probe.is("15", p.outNumbers(), "25 0 1 44 4 200 3 0 9");
        Probe.is("bytes", p.house.packet(2), 9);
        Probe.is("15 again, its count", p.outNumbers(), "25 1 1 44 4 200 3 0 9");
        Probe.is("packet 3", p.house.packet(3), -1);
        Probe.is("packet -1", p.house.packet(-1), -1);
        Probe.is("out stays", p.outNumbers(), "25 1 1 44 4 200 3 0 9");
        Probe.is("archive", p.house.ground(2), 3);
    }

    /** Fills the recorder by a program that emits so many of a kind. */
    private static void fill(Probe p, int kind, int count) {
        p.program(0, "emit " + kind + "\n" + "add v7 1\nif v7 < " + count + " go 0\nset v7 0\nend\n");
        p.house.due(p.house.ship(0) + 1, 0);
        p.house.tick(count + 2);
        Probe.is("filled", p.house.runs(0, 1), 0);
    }

    private static void recorderGoes() {
        Probe p = new Probe();
        fill(p, 0, 50);
        Probe.is("300 bytes go in", p.house.ship(9), 300);
        Probe.is("50 packets", p.house.ship(10), 50);
        Probe.is("no event", p.house.ship(6), 0);
        fill(p, 0, 1);
        Probe.is("the oldest went: an event", p.house.ship(6), 1);
        Probe.is("50 packets", p.house.ship(10), 50);
        fill(p, 3, 1);
        Probe.is("nine bytes want two to go", p.house.ship(6), 3);
        Probe.is("bytes", p.house.ship(9), 300 - 12 + 9);
        fill(p, 15, 1);
        Probe.is("a kind of greater n / 4 is not recorded", p.house.ship(6), 4);
        Probe.is("bytes", p.house.ship(9), 297);
        fill(p, 4, 1);
        Probe.is("nor is 4", p.house.ship(6), 5);
    }

    private static void recorderRefuses() {
        Probe p = new Probe();
        p.house.station(0, 0, 3600, 0);
        fill(p, 12, 20);
        fill(p, 4, 20);
        fill(p, 8, 9);
        Probe.is("49 packets of 6", p.house.ship(9), 294);
        fill(p, 9, 1);
        Probe.is("7 bytes: one of 12 went", p.house.ship(6), 1);
        Probe.is("bytes", p.house.ship(9), 295);
        fill(p, 0, 1);
        Probe.is("another one of 12", p.house.ship(6), 2);
        Probe.is("bytes", p.house.ship(9), 295);
        p.program(1, "on 0\nend\n");
        p.house.due(p.house.ship(0) + 1, 1);
        p.house.tick(30);
        int whole = 0;
        for (int i = 0; i < 30; i++) {
            whole += Math.max(0, p.house.receive());
        }
        Probe.is("49 packets came down", whole, 49);
        int[] kinds = new int[49];
        int[] counts = new int[49];
        for (int i = 0; i < 49; i++) {
            p.house.packet(i);
            kinds[i] = p.house.out(0) - 10;
            counts[i] = p.house.out(1);
        }
        Probe.is("least n / 4 first", kinds[0], 0);
        Probe.is("then 4", kinds[1], 4);
        Probe.is("the oldest first", counts[1], 0);
        Probe.is("then 4", kinds[20], 4);
        Probe.is("its last", counts[20], 19);
        Probe.is("then 8", kinds[21], 8);
        Probe.is("9 is of the same n / 4, but newer", kinds[30], 9);
        Probe.is("then 12", kinds[31], 12);
        Probe.is("the two oldest of them went", counts[31], 2);
        Probe.is("the last", counts[48], 19);
    }

    private static void bothMayBe() {
        Probe p = new Probe();
        fill(p, 8, 1);
        fill(p, 0, 48);
        Probe.is("bytes", p.house.ship(9), 294);
        fill(p, 0, 1);
        Probe.is("300 bytes", p.house.ship(9), 300);
        fill(p, 7, 1);
        Probe.is("the 8 went, and still 9 bytes do not go in", p.house.ship(6), 2);
        Probe.is("49 are left", p.house.ship(10), 49);
        Probe.is("294 bytes", p.house.ship(9), 294);
        fill(p, 8, 2);
        Probe.is("one goes in, the next is the oldest of the greatest", p.house.ship(6), 3);
        Probe.is("50 packets", p.house.ship(10), 50);
    }

    private static void whenFramesGo() {
        Probe p = new Probe();
        p.house.orbit(100, 0, 0, 0);
        p.house.station(3, 180, 108, 0);
        p.house.load(0, 10, 0);
        p.program(0, "wait 6\non 0\n");
        p.house.due(1, 0);
        p.house.tick(7);
        Probe.is("on at 7, but not served then", p.house.ship(14), 0);
        p.house.tick(90);
        Probe.is("seen at 5, 6 and 7 alone", p.house.ship(14), 0);
        p.house.tick(8);
        Probe.is("105", p.house.ship(14), 1);
        p.house.tick(5);
        Probe.is("106, 107", p.house.ship(14), 3);
        p.house.power(0, 9);
        p.house.tick(100);
        Probe.is("not served", p.house.ship(14), 3);
        Probe off = Probe.seen();
        off.program(0, "on 0\nwait 1\noff 0\n");
        off.house.due(1, 0);
        off.house.tick(2);
        Probe.is("off at 2, but served then", off.house.ship(14), 1);
        off.house.tick(1);
        Probe.is("no more", off.house.ship(14), 1);
    }

    private static void frames() {
        Probe p = Probe.seen();
        p.sent("on 0");
        p.sent("set v0 77");
        p.sent("set v1 78");
        p.house.tick(1);
        Probe.is("an empty frame", oldest(p), "0 3 0 255" + " 0".repeat(18));
        p.sent("emit 3");
        p.sent("emit 3");
        p.sent("emit 1");
        p.house.tick(1);
        p.house.lose();
        Probe.is("two packets", oldest(p), "1 6 0 0 13 0 0 1 4 77 78 0 0 13 1 0 1 4 77 78 0 0");
        p.house.tick(1);
        p.house.lose();
        Probe.is("the third", oldest(p), "2 6 0 0 11 0 0 1 2 77 78" + " 0".repeat(11));
        p.sent("emit 0");
        p.sent("emit 3");
        p.house.lose();
        p.house.tick(1);
        Probe.is("a packet, another one whole", oldest(p), "3 8 0 0 10 0 0 3 1 77 13 2 0 3 4 77 78 0 0 0 0 0");
        Probe.is("byte -1", p.house.noise(-1, 1), -1);
        Probe.is("byte 24", p.house.noise(24, 1), -1);
        int[] frame = new int[24];
        for (int i = 0; i < 24; i++) {
            frame[i] = p.house.noise(i, 0);
        }
        Probe.is("check", frame[22] << 8 | frame[23], Crc.of(frame));
        Probe.is("noise takes the lowest eight bits", p.house.noise(0, 0xABCDEF0F), 3 ^ 0x0F);
        Probe.is("and back", p.house.noise(0, -241), 3);
        splitPackets();
    }

    private static void splitPackets() {
        Probe p = Probe.seen();
        p.sent("on 0");
        p.program(0, "emit 3\nemit 3\nemit 0\nemit 2\nemit 3\n");
        p.house.due(1, 0);
        p.house.tick(4);
        Probe.is("9 + 9", p.house.noise(3, 0), 0);
        Probe.is("packets", p.house.receive(), 2);
        Probe.is("6 + 8 and 4 of 9", p.house.noise(3, 0), 0);
        Probe.is("packets", p.house.receive(), 2);
        Probe.is("5 of 9: none begins", p.house.noise(3, 0), 255);
        Probe.is("packets", p.house.receive(), 1);
        Probe.is("the last", p.house.packet(4), 9);
        Probe.is("pieced", p.outNumbers(), "13 2 0 1 4 0 0 0 0");
        Probe.is("empty", p.house.receive(), 0);
        Probe.is("no gap", p.house.ground(0), 0);
        Probe under = Probe.seen();
        under.sent("on 0");
        under.program(0, "emit 3\nemit 3\nemit 3\nemit 3\nwait 1\nemit 0\n");
        under.house.due(1, 0);
        under.house.tick(1);
        Probe.is("two went", under.house.ship(10), 2);
        Probe.is("two went", under.house.ship(9), 18);
        Probe begins = Probe.seen();
        begins.sent("on 0");
        begins.program(0, "emit 2\nemit 2\nemit 2\nwait 1\nemit 0\nemit 3\n");
        begins.house.due(1, 0);
        begins.house.tick(1);
        Probe.is("the third is under way", begins.house.ship(10), 0);
        Probe.is("and no more in the recorder", begins.house.ship(9), 0);
        begins.house.lose();
        begins.house.tick(1);
        Probe.is("six of it, then the next begins", oldest(begins), "1 1 0 6 0 1 3 0 0 0 10 0 0 2 1 0 13 0 0 2 4 0");
        Probe.is("one under way", begins.house.ship(10), 0);
    }

    private static void manyFrames() {
        Probe p = Probe.seen();
        p.sent("on 0");
        p.house.tick(30);
        Probe.is("30 wait", p.house.ship(14), 30);
        p.sent("emit 0");
        p.house.tick(1);
        Probe.is("further ones are gone", p.house.ship(14), 30);
        Probe.is("with what they had", p.house.ship(10), 0);
        Probe.is("lose", p.house.lose(), 29);
        p.house.tick(2);
        Probe.is("30 again", p.house.ship(14), 30);
        for (int i = 1; i < 30; i++) {
            Probe.is("count", p.house.noise(0, 0), i);
            Probe.is("receive", p.house.receive(), 0);
        }
        Probe.is("no gap", p.house.ground(0), 0);
        Probe.is("count 31: 30 is gone", p.house.noise(0, 0), 31);
        Probe.is("receive", p.house.receive(), 0);
        Probe.is("a gap", p.house.ground(0), 1);
        Probe.is("none waits", p.house.receive(), -1);
        Probe.is("none waits", p.house.lose(), -1);
        Probe.is("none waits", p.house.noise(0, 0), -1);
        p.house.tick(500);
        for (int i = 0; i < 30; i++) {
            p.house.receive();
        }
        p.house.tick(1);
        Probe.is("count mod 256: 533", p.house.noise(0, 0), 533 % 256);
    }

    private static void order() {
        Probe p = Probe.seen();
        p.program(0, "emit 12\nemit 5\nemit 8\nemit 1\nemit 4\nemit 0\non 0\n");
        p.house.due(1, 0);
        p.house.tick(6);
        int whole = 0;
        for (int i = 0; i < 5; i++) {
            whole += p.house.receive();
        }
        Probe.is("six", whole, 6);
        int[] kinds = {1, 0, 5, 4, 8, 12};
        for (int i = 0; i < 6; i++) {
            p.house.packet(i);
            Probe.is("kind", p.house.out(0) - 10, kinds[i]);
        }
    }

    private static void bad() {
        for (int i = 0; i < 24; i++) {
            Probe p = Probe.seen();
            p.sent("on 0");
            p.house.tick(1);
            p.house.noise(i, 0x40);
            Probe.is("bad", p.house.receive(), -2);
            Probe.is("bad", p.house.ground(1), 1);
            Probe.is("nothing is acknowledged", p.house.ground(3), 1);
            Probe.is("it waits no more", p.house.ship(14), 0);
            p.house.tick(1);
            Probe.is("the first that is not bad", p.house.receive(), 0);
            Probe.is("has no gap", p.house.ground(0), 0);
            Probe.is("acknowledged", p.house.ground(3), 0);
            p.house.tick(1);
            p.house.noise(i, 0x01);
            Probe.is("bad", p.house.receive(), -2);
            p.house.tick(1);
            Probe.is("the next one", p.house.receive(), 0);
            Probe.is("has a gap", p.house.ground(0), 1);
        }
    }

    private static void gaps() {
        Probe p = Probe.seen();
        p.sent("on 0");
        p.program(0, "emit 3\nemit 3\nemit 0\nemit 2\nemit 3\nemit 0\nemit 0\n");
        p.house.due(1, 0);
        p.house.tick(5);
        Probe.is("two", p.house.receive(), 2);
        Probe.is("6 + 8 and 4 of 9", p.house.receive(), 2);
        p.house.lose();
        Probe.is("without the rest of it", p.house.receive(), 0);
        Probe.is("a gap", p.house.ground(0), 1);
        Probe.is("four alone", p.house.ground(2), 4);
        Probe q = Probe.seen();
        q.sent("on 0");
        q.program(0, "emit 3\nemit 3\nemit 0\nemit 2\nemit 3\nemit 0\nemit 0\n");
        q.house.due(1, 0);
        q.house.tick(5);
        q.house.receive();
        q.house.lose();
        Probe.is("FIRST of the third", q.house.noise(3, 0), 5);
        Probe.is("it begins behind the rest of one", q.house.receive(), 2);
        Probe.is("a gap", q.house.ground(0), 1);
        Probe.is("the fourth", q.house.receive(), 0);
        Probe.is("no further gap", q.house.ground(0), 1);
        Probe started = Probe.seen();
        started.sent("on 0");
        started.program(0, "emit 3\nemit 3\nemit 0\nemit 2\nemit 3\nemit 0\nemit 0\n");
        started.house.due(1, 0);
        started.house.tick(5);
        started.house.lose();
        started.house.lose();
        Probe.is("the first one begins at FIRST, too", started.house.receive(), 2);
        Probe.is("without a gap", started.house.ground(0), 0);
    }

    private static void firsts() {
        int[] packet = {0, 0, 0, 10, 5, 0, 9, 1, 8, 7};
        for (int first = 0; first <= 255; first++) {
            Probe p = Probe.sending(1);
            p.forge(4, packet);
            p.forge(3, first);
            int due = first == 3 ? 1 : 0;
            Probe.is("FIRST " + first, p.house.receive(), due);
        }
        Probe late = Probe.sending(2);
        late.forge(3, 17);
        late.forge(21, 12);
        Probe.is("the last place", late.house.receive(), 0);
        late.forge(4, 0, 0, 0, 1, 6, 0, 0);
        Probe.is("goes on in the next frame", late.house.receive(), 1);
        Probe.is("bytes", late.house.packet(0), 6);
        Probe.is("bytes", late.outNumbers(), "12 0 0 0 1 6");
        Probe ignored = Probe.sending(2);
        ignored.house.receive();
        ignored.forge(3, 2, 10, 0, 0, 0, 1, 55);
        Probe.is("without a gap FIRST does not matter", ignored.house.receive(), 1);
        Probe nothing = Probe.sending(3);
        nothing.forge(3, 255, 10, 0, 0, 0, 1, 55);
        Probe.is("255: nothing of this frame", nothing.house.receive(), 0);
        nothing.forge(3, 255, 10, 0, 0, 0, 1, 56);
        Probe.is("then at place 0", nothing.house.receive(), 1);
        nothing.forge(0, 9, 0, 0, 18, 10, 0, 0, 0, 1, 55);
        Probe.is("18 in a gap: nothing", nothing.house.receive(), 0);
        Probe.is("a gap", nothing.house.ground(0), 1);
    }

    private static void forgedPackets() {
        for (int kind : new int[] {9, 10, 25, 26, 0, 255}) {
            Probe p = Probe.sending(1);
            p.forge(3, 0, kind, 1, 2, 3, 1, 5);
            Probe.is("kind byte " + kind, p.house.receive(), kind == 10 || kind == 25 ? 1 : 0);
        }
        for (int data = 0; data < 256; data += data == 5 ? 249 : 1) {
            Probe p = Probe.sending(2);
            p.forge(3, 0, 10, 1, 2, 3, data, 12, 12, 12, 12, 12, 12, 12, 12, 1, 12, 12, 12, 12);
            int whole = p.house.receive();
            Probe.is("data " + data + ": one at least", Math.min(whole, 1), data >= 1 && data <= 4 ? 1 : 0);
            if (whole == 0) {
                p.forge(4, 11, 0, 0, 0, 1, 1);
                Probe.is("dropped: the next begins at place 0", p.house.receive(), 1);
            }
        }
        Probe ends = Probe.sending(1);
        ends.forge(3, 0, 10, 0, 0, 0, 1, 5, 3, 10, 0, 0, 0, 1, 5);
        Probe.is("a byte that is none ends the data", ends.house.receive(), 1);
        Probe split = Probe.sending(2);
        split.forge(3, 14, 0, 0, 0, 0, 0, 0, 0, 0, 0, 0, 0, 0, 0, 0, 10, 0, 0, 0);
        Probe.is("four bytes", split.house.receive(), 0);
        split.forge(4, 9, 10, 0, 0, 0, 1, 5);
        Probe.is("its number of data is wrong in the next frame", split.house.receive(), 0);
        Probe wraps = Probe.sending(2);
        wraps.forge(0, 255);
        wraps.house.receive();
        wraps.forge(0, 0);
        wraps.house.receive();
        Probe.is("0 is one more than 255", wraps.house.ground(0), 0);
    }

    /** So many that the CHECK passes by all the values at which it might be counted wrong. */
    private static void checks() {
        java.util.Random random = new java.util.Random(3);
        for (int run = 0; run < 200; run++) {
            Probe p = Probe.sending(30);
            for (int i = 0; i < 30; i++) {
                int[] bytes = new int[22];
                for (int j = 0; j < 22; j++) {
                    bytes[j] = random.nextInt(256);
                }
                p.forge(0, bytes);
                p.house.receive();
            }
            Probe.is("none is bad", p.house.ground(1), 0);
        }
    }

    private static void archives() {
        Probe p = Probe.sending(30);
        int whole = 0;
        for (int i = 0; i < 30; i++) {
            p.forge(3, 0, 10, i, 0, 0, 1, 1, 10, i, 0, 0, 1, 2, 10, i, 0, 0, 1, 3);
            whole += p.house.receive();
        }
        Probe.is("those that find no place are counted, too", whole, 90);
        Probe.is("archive", p.house.ground(2), 60);
        Probe.is("the last", p.house.packet(59), 6);
        Probe.is("the last", p.outNumbers(), "10 19 0 0 1 3");
        Probe.is("none further", p.house.packet(60), -1);
    }
}
