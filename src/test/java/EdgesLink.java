import java.util.ArrayList;
import java.util.List;

/** Of Part VII PACKETS, the RECORDER and THE LINK, and promises 23 and 24: noise, lose. */
final class EdgesLink {
    static void all() {
        bytes();
        counts();
        countsAround();
        clockAround();
        recorderRoom();
        comingAndGoing();
        sideBySide();
        whichGoes();
        bothMayBe();
        sentFirst();
        whenFramesGo();
        frameCounts();
        reportsAndFlags();
        firsts();
        checks();
        data();
        waiting();
        noise();
        lose();
    }

    /** So many PACKETS of a KIND come to the RECORDER, and nothing else goes on. */
    private static void record(Probe p, int kind, int count) {
        for (int left = count; left > 0; left -= 30) {
            int now = Math.min(left, 30);
            p.program(6, ("emit " + kind + "\n").repeat(now));
            p.house.due(p.house.ship(0) + 1, 6);
            p.house.tick(now / 8 + 1);
            Probe.is("all are told", p.house.runs(6, 1), 0);
        }
    }

    /** Sends all down and takes it: the PACKETS of the ARCHIVE as "KIND:COUNT". */
    private static List<String> sentDown(Probe p) {
        p.house.station(0, 0, 3600, 0);
        p.sent("on 0");
        p.house.tick(30);
        p.sent("off 0");
        for (int i = 0; i < 30; i++) {
            p.house.receive();
        }
        List<String> packets = new ArrayList<>();
        for (int i = 0; i < p.house.ground(2); i++) {
            p.house.packet(i);
            packets.add(p.house.out(0) - 10 + ":" + p.house.out(1));
        }
        return packets;
    }

    private static void bytes() {
        Doc.says("Part VII", "emit n: a PACKET of KIND n: bytes 10 + n, its COUNT (of that KIND, from 0 on, mod 256; also of those that are not recorded),"
            + " THE CLOCK mod 65,536 (2), n mod 4 + 1, and so many data: V0, V1, ..: 6 to 9 bytes.");
        for (int n = 0; n < 16; n++) {
            Probe p = Probe.seen();
            p.program(0, "set v0 255\nset v1 128\nset v2 1\nset v3 77\nset v4 99\nemit " + n + "\non 0\n");
            p.house.due(258, 0);
            p.house.tick(258);
            Probe.is("bytes in the RECORDER", p.house.ship(9), 6 + n % 4);
            p.house.tick(1);
            Probe.is("whole", p.house.receive(), 1);
            Probe.is("bytes", p.house.packet(0), 6 + n % 4);
            String data = new String[] {"255", "255 128", "255 128 1", "255 128 1 77"}[n % 4];
            Probe.is("KIND " + n, p.outNumbers(), 10 + n + " 0 1 2 " + (n % 4 + 1) + " " + data);
        }
    }

    private static void counts() {
        Probe each = new Probe();
        record(each, 1, 2);
        record(each, 2, 1);
        record(each, 1, 1);
        record(each, 0, 1);
        Probe.is("each KIND has its own", sentDown(each).toString(), "[1:0, 1:1, 2:0, 1:2, 0:0]");
        Probe refused = new Probe();
        record(refused, 0, 50);
        Probe.is("full", refused.house.ship(9), 300);
        record(refused, 15, 3);
        Probe.is("three are not recorded", refused.house.ship(6), 3);
        sentDown(refused);
        record(refused, 15, 1);
        refused.house.receive();
        Probe.is("but are counted", sentDown(refused).get(50), "15:3");
    }

    private static void countsAround() {
        for (int n : new int[] {0, 15}) {
            Probe p = new Probe();
            record(p, n, 240 + 30);
            List<String> packets = sentDown(p);
            int held = 300 / (6 + n % 4);
            Probe.is("the latest are held", packets.size(), held);
            for (int i = 0; i < held; i++) {
                Probe.is("COUNT", packets.get(i), n + ":" + (270 - held + i) % 256);
            }
        }
    }

    private static void clockAround() {
        Probe p = Probe.seen();
        for (int i = 0; i < 131; i++) {
            p.house.tick(500);
        }
        p.house.tick(35);
        for (int i = 0; i < 3; i++) {
            p.sent("emit 0");
            p.house.tick(1);
        }
        p.sent("on 0");
        p.house.tick(1);
        Probe.is("three", p.house.receive(), 3);
        String[] due = {"10 0 255 255 1 0", "10 1 0 0 1 0", "10 2 0 1 1 0"};
        for (int i = 0; i < 3; i++) {
            p.house.packet(i);
            Probe.is("THE CLOCK of " + i, p.outNumbers(), due[i]);
        }
        Doc.says("CORNERS", "Two bytes have the highest first.");
        Probe hours = Probe.seen();
        hours.house.tick(500);
        hours.sent("emit 0");
        hours.sent("on 0");
        hours.house.tick(1);
        int[] frame = hours.oldestFrame();
        Probe.is("THE CLOCK", frame[6] * 256 + frame[7], 500);
        Probe.is("CHECK", frame[22] * 256 + frame[23], Crc.of(frame));
    }

    private static void recorderRoom() {
        Doc.says("Part VII", "It comes to the RECORDER, of 300 bytes: as long as it does not go in, the oldest of the KINDS of greatest n / 4 (down) there goes,"
            + " if that is not less than its own; else it is not recorded (an EVENT either way).");
        for (int n = 0; n < 16; n++) {
            Probe p = new Probe();
            int size = 6 + n % 4;
            int held = 300 / size;
            record(p, n, held);
            Probe.is("bytes", p.house.ship(9), held * size);
            Probe.is("packets", p.house.ship(10), held);
            Probe.is("no EVENT", p.house.ship(6), 0);
            record(p, n, 1);
            Probe.is("as many", p.house.ship(10), held);
            Probe.is("the oldest went: an EVENT", p.house.ship(6), 1);
            List<String> packets = sentDown(p);
            Probe.is("the oldest now", packets.get(0), n + ":1");
            Probe.is("the latest", packets.get(held - 1), n + ":" + held);
        }
        int[] free = {0, 6, 4, 3};
        for (int n = 0; n < 4; n++) {
            for (int other = 12; other < 16; other++) {
                Probe p = new Probe();
                record(p, n, 300 / (6 + n));
                record(p, other, 1);
                Probe.is(free[n] + " are free for KIND " + other, p.house.ship(6), 6 + other % 4 <= free[n] ? 0 : 1);
                Probe.is("bytes", p.house.ship(9), 300 - free[n] + (6 + other % 4 <= free[n] ? 6 + other % 4 : 0));
            }
        }
        Probe exact = new Probe();
        record(exact, 3, 32);
        record(exact, 0, 2);
        Probe.is("288 and 12", exact.house.ship(9), 300);
        Probe.is("no EVENT", exact.house.ship(6), 0);
        Probe one = new Probe();
        record(one, 3, 32);
        record(one, 0, 1);
        record(one, 1, 1);
        Probe.is("301 do not go in: the oldest went", one.house.ship(6), 1);
        Probe.is("301 less 9", one.house.ship(9), 292);
    }

    /** PACKETS of all KINDS come and go for long: each comes down as it was made. */
    private static void comingAndGoing() {
        Probe p = Probe.sending(0);
        int[] next = new int[16];
        int whole = 0;
        for (int round = 0; round < 6; round++) {
            p.program(0, "emit 3\nadd v3 1\nemit 15\nadd v3 1\nemit 7\nadd v3 1\nemit 11\nadd v3 1\nemit 0\nemit 12\nemit 4\nemit 8\nadd v0 1\n");
            p.house.due(p.house.ship(0) + 1, 0);
            p.house.station(0, 0, 0, 0);
            p.house.tick(2);
            p.house.station(0, 0, 3600, 0);
            p.house.tick(6);
            for (int i = 0; i < 6; i++) {
                p.house.receive();
            }
            for (int n : new int[] {3, 0, 7, 4, 11, 8, 15, 12}) {
                Probe.is("bytes", p.house.packet(whole), 6 + n % 4);
                Probe.is("KIND", p.house.out(0) - 10, n);
                Probe.is("COUNT", p.house.out(1), next[n]++);
                Probe.is("V0", p.house.out(5), round);
                if (n % 4 == 3) {
                    Probe.is("V3", p.house.out(8), 4 * round + (n == 3 ? 0 : n == 15 ? 1 : n == 7 ? 2 : 3));
                }
                whole++;
            }
            rotate(p);
        }
        Probe full = new Probe();
        full.program(0, "emit 15\nadd v3 1\nadd v0 3\nif v3 < 33 go 0\n");
        full.house.due(1, 0);
        full.house.tick(17);
        Probe.is("33 of 9 bytes", full.house.ship(9), 297);
        Probe.is("no EVENT", full.house.ship(6), 0);
        sentDown(full);
        for (int i = 0; i < 33; i++) {
            full.house.packet(i);
            Probe.is("V0 of " + i, full.house.out(5), 3 * i);
            Probe.is("V3 of " + i, full.house.out(8), i);
        }
    }

    /** As many of one n / 4 as come to the last place that they may have, and one of another. */
    private static void sideBySide() {
        for (int one = 0; one < 16; one += 4) {
            for (int other = 0; other < 16; other += 4) {
                Probe p = new Probe();
                record(p, one, 49);
                Probe.is("294 bytes", p.house.ship(9), 294);
                sentDown(p);
                p.program(0, "set v0 1\nemit " + one + "\nset v0 2\nemit " + other + "\nset v0 3\nemit " + one + "\n");
                p.house.due(p.house.ship(0) + 1, 0);
                p.house.tick(1);
                p.sent("on 0");
                p.house.tick(1);
                p.house.receive();
                int[] due = other < one ? new int[] {2, 1, 3} : other == one ? new int[] {1, 2, 3} : new int[] {1, 3, 2};
                for (int i = 0; i < 3; i++) {
                    p.house.packet(49 + i);
                    Probe.is(one + " and " + other, p.house.out(5), due[i]);
                }
            }
        }
    }

    /** So many go through the RECORDER, and are lost on their way, that places of it are used again. */
    private static void rotate(Probe p) {
        for (int kind : new int[] {1, 5, 9, 13}) {
            p.program(6, ("emit " + kind + "\n").repeat(30));
            p.house.due(p.house.ship(0) + 1, 6);
            p.house.tick(16);
        }
        for (int i = p.house.ship(14); i > 0; i--) {
            p.house.lose();
        }
        Probe.is("none is left", p.house.ship(10), 0);
        p.house.tick(1);
        p.house.receive();
    }

    private static void whichGoes() {
        for (int there = 0; there < 4; there++) {
            for (int own = 0; own < 4; own++) {
                for (int edge = 0; edge < 4; edge++) {
                    Probe p = new Probe();
                    record(p, there * 4, 50);
                    record(p, own * 4 + edge, 1);
                    boolean goes = there >= own;
                    Probe.is("of " + there + " for " + own, p.house.ship(6), goes ? edge == 0 ? 1 : 2 : 1);
                    Probe.is("packets", p.house.ship(10), goes ? edge == 0 ? 50 : 49 : 50);
                    List<String> packets = sentDown(p);
                    String packet = own * 4 + edge + ":" + (there == own && edge == 0 ? 50 : 0);
                    Probe.is("it is there", packets.contains(packet) ? 1 : 0, goes ? 1 : 0);
                }
            }
        }
        Probe greatest = new Probe();
        record(greatest, 12, 2);
        record(greatest, 8, 1);
        record(greatest, 13, 1);
        record(greatest, 0, 46);
        Probe.is("301 less 6", greatest.house.ship(9), 295);
        Probe.is("the oldest of the greatest went", greatest.house.ship(6), 1);
        record(greatest, 11, 1);
        Probe.is("one more went", greatest.house.ship(6), 2);
        Probe.is("298 bytes", greatest.house.ship(9), 298);
        record(greatest, 11, 1);
        Probe.is("13 went", greatest.house.ship(6), 3);
        Probe.is("just 300 bytes", greatest.house.ship(9), 300);
        record(greatest, 11, 1);
        Probe.is("the two oldest of 8 .. 11", greatest.house.ship(6), 5);
        Probe.is("packets", sentDown(greatest).toString().replaceAll("0:\\d+, ", ""), "[11:1, 11:2]");
    }

    private static void bothMayBe() {
        Doc.says("CORNERS", "Each PACKET that goes is an EVENT, and one not recorded is one, too (both may be).");
        Probe p = new Probe();
        record(p, 4, 1);
        record(p, 0, 49);
        record(p, 7, 1);
        Probe.is("4 went, and 7 does not go in", p.house.ship(6), 2);
        Probe.is("49 are left", p.house.ship(10), 49);
        Probe.is("bytes", p.house.ship(9), 294);
        record(p, 4, 1);
        Probe.is("6 go in again", p.house.ship(6), 2);
        Probe two = new Probe();
        record(two, 12, 1);
        record(two, 0, 49);
        record(two, 3, 1);
        Probe.is("two went", two.house.ship(6), 2);
        Probe.is("and it is recorded", two.house.ship(9), 300 - 12 + 9);
        Probe none = new Probe();
        record(none, 0, 50);
        record(none, 4, 2);
        Probe.is("not recorded, twice", none.house.ship(6), 2);
        Probe.is("none went", none.house.ship(10), 50);
    }

    private static void sentFirst() {
        Doc.says("Part VII", "Those sent first are those of the least n / 4, then the oldest.");
        Probe p = new Probe();
        for (int n : new int[] {12, 15, 11, 8, 7, 4, 3, 0, 14, 2, 9, 5}) {
            record(p, n, 1);
        }
        Probe.is("in order", sentDown(p).toString(), "[3:0, 0:0, 2:0, 7:0, 4:0, 5:0, 11:0, 8:0, 9:0, 12:0, 15:0, 14:0]");
        Probe later = Probe.sending(0);
        later.program(0, "emit 15\nemit 15\nemit 15\nwait 1\nemit 0\nemit 0\n");
        later.house.due(1, 0);
        later.house.tick(3);
        for (int i = 0; i < 3; i++) {
            later.house.receive();
        }
        StringBuilder kinds = new StringBuilder();
        for (int i = 0; i < 5; i++) {
            later.house.packet(i);
            kinds.append(later.house.out(0)).append(' ');
        }
        Probe.is("those that came later go first", kinds.toString(), "25 25 10 10 25 ");
    }

    private static void whenFramesGo() {
        Doc.says("Part VII", "THE LINK: at a TICK, if LOAD 0 was SERVED and a station SEES the ship, a FRAME of 24 bytes goes down");
        for (int served = 0; served < 2; served++) {
            for (int seen = 0; seen < 2; seen++) {
                Probe p = Probe.seen();
                p.sent(served == 1 ? "on 0" : "on 1");
                p.house.station(0, 0, 3600 * seen, 0);
                p.house.tick(1);
                Probe.is("served " + served + " seen " + seen, p.house.ship(14), served * seen);
                Probe.is("24 bytes", p.house.noise(23, 0) >= 0 ? 1 : 0, served * seen);
                Probe.is("no more", p.house.noise(24, 0), -1);
            }
        }
        Probe poor = Probe.seen();
        poor.sent("on 0");
        poor.house.power(5, 5);
        poor.house.load(0, 11, 0);
        poor.house.tick(1);
        Probe.is("on, but not SERVED", poor.house.ship(14), 0);
        poor.house.load(0, 10, 0);
        poor.sent("on 0");
        poor.house.tick(1);
        Probe.is("SERVED", poor.house.ship(14), 1);
        Probe now = Probe.seen();
        now.program(0, "on 0\nwait 1\noff 0\n");
        now.house.due(1, 0);
        now.house.tick(1);
        Probe.is("on, but too late to be SERVED", now.house.ship(14), 0);
        now.house.tick(1);
        Probe.is("off, but it was SERVED", now.house.ship(14), 1);
        now.house.tick(1);
        Probe.is("off", now.house.ship(14), 1);
        for (int station = 0; station < 4; station++) {
            Probe p = Probe.seen();
            p.sent("on 0");
            p.house.station(0, 0, 0, 0);
            p.house.orbit(3600, 0, 0, 0);
            p.house.station(station, 5, 2, 0);
            p.house.tick(4);
            Probe.is("not yet", p.house.ship(14), 0);
            p.house.tick(9);
            Probe.is("in seconds 5 and 6", p.house.ship(14), 2);
        }
    }

    private static void loseAll(Probe p) {
        for (int i = p.house.ship(14); i > 0; i--) {
            p.house.lose();
        }
    }

    private static void frameCounts() {
        Doc.says("Part VII", "its COUNT (from 0 on, mod 256)");
        Probe p = Probe.sending(1);
        Probe.is("the first", p.house.noise(0, 0), 0);
        loseAll(p);
        p.house.tick(254);
        Probe.is("the second", p.house.noise(0, 0), 1);
        loseAll(p);
        p.house.tick(3);
        for (int due : new int[] {255, 0, 1}) {
            Probe.is("around", p.house.noise(0, 0), due);
            p.house.lose();
        }
    }

    private static void reportsAndFlags() {
        Doc.says("Part VII", "REPORT (Part VIII: the number that is awaited); FLAGS (1 if frames are to be sent again, else 0)");
        Probe p = Probe.sending(1);
        Probe.is("REPORT", p.house.noise(1, 0), 1);
        Probe.is("FLAGS", p.house.noise(2, 0), 0);
        p.house.lose();
        p.command("on 1");
        p.command("on 2");
        p.house.send(1);
        p.house.send(0);
        p.house.tick(1);
        Probe.is("REPORT", p.house.noise(1, 0), 1);
        Probe.is("FLAGS", p.house.noise(2, 0), 1);
        p.house.receive();
        p.house.send(0);
        p.house.tick(1);
        Probe.is("REPORT", p.house.noise(1, 0), 2);
        Probe.is("FLAGS", p.house.noise(2, 0), 0);
    }

    private static void firsts() {
        Doc.says("Part VII", "FIRST: the place in the data, 0 .. 17, of the first PACKET that begins in this FRAME, 255 if none does; 18 bytes of data");
        // KINDS 0 .. 3 have 6 .. 9 bytes: how many of the last one are left for the second FRAME
        int[][] kinds = {{0, 0, 0}, {0, 1, 0}, {1, 1, 0}, {1, 2, 0}, {2, 2, 0}, {3, 2, 0}, {3, 2, 1}, {3, 2, 2}, {3, 2, 3}, {3, 3}};
        int[] left = {0, 1, 2, 3, 4, 5, 6, 7, 8, 0};
        for (int i = 0; i < kinds.length; i++) {
            for (int next = 0; next < 2; next++) {
                StringBuilder text = new StringBuilder();
                for (int kind : kinds[i]) {
                    text.append("emit ").append(kind).append('\n');
                }
                Probe p = Probe.sending(0);
                p.program(0, text + (next == 1 ? "emit 0\n" : ""));
                p.house.due(1, 0);
                p.house.tick(2);
                Probe.is("the first begins at 0", p.house.noise(3, 0), 0);
                p.house.lose();
                Probe.is("behind " + left[i], p.house.noise(3, 0), next == 1 ? left[i] : 255);
            }
        }
        Probe none = Probe.sending(1);
        Probe.is("none begins", none.house.noise(3, 0), 255);
        Probe two = Probe.sending(0);
        two.sent("emit 0");
        two.sent("emit 0");
        two.house.tick(1);
        Probe.is("the first of two", two.house.noise(3, 0), 0);
    }

    private static void checks() {
        Doc.says("Part VII", "CHECK (2): of the 22 ahead, c 0xFFFF; for each byte b: c exclusive-or b * 256, then eight times: twice itself mod 65,536,"
            + " exclusive-or 0x1021 if it was above 32,767.");
        Probe p = Probe.sending(0);
        p.program(0, "add v0 37\nadd v1 101\nadd v2 3\nadd v3 251\nemit 3\nemit 7\nwait 1\ngo 0\n");
        p.house.due(1, 0);
        for (int round = 0; round < 8; round++) {
            p.house.tick(2);
            for (int i = 0; i < 2; i++) {
                int[] frame = p.oldestFrame();
                Probe.is("CHECK", frame[22] * 256 + frame[23], Crc.of(frame));
                p.house.lose();
            }
        }
        Probe known = Probe.sending(1).forge(0, 0x31, 0x32, 0x33, 0x34, 0x35, 0x36, 0x37, 0x38, 0x39, 0, 0, 0, 0, 0, 0, 0, 0, 0, 0, 0, 0, 0);
        Probe.is("a right one is not BAD", known.house.receive() == -2 ? 1 : 0, 0);
    }

    private static String data(Probe p) {
        int[] frame = p.oldestFrame();
        StringBuilder text = new StringBuilder();
        for (int i = 4; i < 22; i++) {
            text.append(i == 4 ? "" : " ").append(frame[i]);
        }
        p.house.lose();
        return text.toString();
    }

    private static void data() {
        Doc.says("Part VII", "The data are those of a PACKET that is under way, then PACKETS from the RECORDER (each goes from it as its first byte is sent),"
            + " one behind the other; without any the rest is 0s.");
        Probe p = Probe.sending(1);
        Probe.is("without any", data(p), "0" + " 0".repeat(17));
        p.program(0, "set v0 9\nset v1 8\nset v2 7\nemit 2\nemit 2\nemit 2\nemit 0\n");
        p.house.due(2, 0);
        p.house.tick(1);
        Probe.is("the third is under way, the fourth is there", p.house.ship(10), 1);
        Probe.is("6 bytes", p.house.ship(9), 6);
        Probe.is("two and two bytes", data(p), "12 0 0 2 3 9 8 7 12 1 0 2 3 9 8 7 12 2");
        p.house.tick(1);
        Probe.is("none is there", p.house.ship(10) + p.house.ship(9), 0);
        Probe.is("the rest, and one, and 0s", data(p), "0 2 3 9 8 7 10 0 0 2 1 9 0 0 0 0 0 0");
        Probe one = Probe.sending(0);
        one.program(0, "emit 3\nemit 2\nemit 0\n");
        one.house.due(1, 0);
        one.house.tick(1);
        Probe.is("its first byte is sent: it goes from there", one.house.ship(9), 0);
        Probe stays = Probe.sending(0);
        stays.program(0, "emit 3\nemit 3\nemit 0\n");
        stays.house.due(1, 0);
        stays.house.tick(1);
        Probe.is("none of its bytes is sent: it stays", stays.house.ship(9), 6);
        Probe unseen = Probe.sending(0);
        unseen.program(0, "emit 3\nemit 2\nemit 0\n");
        unseen.house.due(1, 0);
        unseen.house.tick(1);
        unseen.house.station(0, 0, 0, 0);
        unseen.house.tick(50);
        unseen.house.station(0, 0, 3600, 0);
        unseen.house.tick(1);
        Probe.is("the COUNT goes on", unseen.house.lose(), 1);
        Probe.is("what is under way stays so", data(unseen), "0 0 1 1 0" + " 0".repeat(13));
    }

    private static void waiting() {
        Doc.says("Part VII", "FRAMES that have come down wait, at most 30: further ones are gone.");
        for (int frames : new int[] {1, 29, 30, 31, 32, 100}) {
            Probe p = Probe.sending(frames);
            Probe.is("wait", p.house.ship(14), Math.min(frames, 30));
            for (int i = 0; i < Math.min(frames, 30); i++) {
                Probe.is("in their order", p.house.noise(0, 0), i);
                p.house.lose();
            }
            Probe.is("none", p.house.lose(), -1);
            p.house.tick(1);
            Probe.is("the next one", p.house.noise(0, 0), frames);
        }
        Probe gone = Probe.sending(30);
        gone.sent("emit 0");
        gone.house.tick(1);
        Probe.is("what it had is gone", gone.house.ship(10), 0);
        for (int i = 0; i < 30; i++) {
            Probe.is("not in those that wait", gone.house.receive(), 0);
        }
        gone.house.tick(1);
        Probe.is("nor later", gone.house.receive(), 0);
        Probe.is("but a gap", gone.house.ground(0), 1);
    }

    private static void noise() {
        Doc.says("Promise 23", "Byte i of the oldest FRAME that waits becomes itself exclusive-or x (its lowest eight bits): what it is then; NONE if there is none such.");
        Twins.beyond("byte", 0, 23, (house, x) -> house.noise(x, 255));
        for (int i = 0; i < 24; i++) {
            Probe.is("none waits", new MissionHouse().noise(i, 1), -1);
            Probe p = Probe.sending(2);
            int[] before = p.oldestFrame();
            Probe.is("0", p.house.noise(i, 0), before[i]);
            Probe.is("255", p.house.noise(i, 255), before[i] ^ 255);
            Probe.is("256", p.house.noise(i, 256), before[i] ^ 255);
            Probe.is("-1", p.house.noise(i, -1), before[i]);
            Probe.is("the least", p.house.noise(i, Integer.MIN_VALUE), before[i]);
            Probe.is("the greatest", p.house.noise(i, Integer.MAX_VALUE), before[i] ^ 255);
            Probe.is("128", p.house.noise(i, 0x580), before[i] ^ 127);
            for (int j = 0; j < 24; j++) {
                Probe.is("no other", p.house.noise(j, 0), j == i ? before[j] ^ 127 : before[j]);
            }
            p.house.lose();
            Probe.is("the next one is as it was", p.house.noise(0, 0), 1);
        }
        Probe busy = Twins.busy();
        int[] before = busy.oldestFrame();
        busy.house.noise(24, 255);
        busy.house.noise(-1, 255);
        for (int i = 0; i < 24; i++) {
            Probe.is("nothing is changed", busy.house.noise(i, 0), before[i]);
        }
    }

    private static void lose() {
        Doc.says("Promise 24", "The oldest FRAME that waits is gone (lost): how many wait; NONE if there is none.");
        Probe.is("none", new MissionHouse().lose(), -1);
        Probe p = Probe.sending(30);
        for (int i = 29; i >= 0; i--) {
            Probe.is("the oldest", p.house.noise(0, 0), 29 - i);
            Probe.is("wait", p.house.lose(), i);
        }
        Probe.is("none", p.house.lose(), -1);
        Probe.is("none", p.house.ship(14), 0);
        Twins.refused("none waits", () -> {
            Probe busy = Twins.busy();
            loseAll(busy);
            return busy;
        }, -1, house -> house.lose());
    }
}
