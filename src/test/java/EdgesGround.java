import java.util.Arrays;

/** Of Part VII THE GROUND, and promises 25, 26 and 29: receive, packet, ground. */
final class EdgesGround {
    static void all() {
        receive();
        bad();
        gaps();
        gapsAround();
        dropped();
        firstOne();
        firsts();
        withoutGap();
        kinds();
        numbersOfData();
        archive();
        packet();
        ground();
    }

    private static void receive() {
        Doc.says("Promise 25", "THE GROUND takes the oldest FRAME that waits: how many PACKETS came to be whole by it; -2 if it is BAD; NONE if there is none.");
        Probe.is("none", new MissionHouse().receive(), -1);
        Probe p = Probe.sending(0);
        p.program(0, "emit 0\nemit 0\nemit 0\nemit 3\nemit 3\nemit 3\n");
        p.house.due(1, 0);
        p.house.tick(4);
        Probe.is("three", p.house.receive(), 3);
        Probe.is("two", p.house.receive(), 2);
        Probe.is("wait", p.house.ship(14), 2);
        Probe.is("one", p.house.receive(), 1);
        p.house.noise(22, 1);
        Probe.is("BAD", p.house.receive(), -2);
        Probe.is("none", p.house.receive(), -1);
        Twins.refused("none waits", () -> {
            Probe busy = Twins.busy();
            for (int i = busy.house.ship(14); i > 0; i--) {
                busy.house.receive();
            }
            return busy;
        }, -1, house -> house.receive());
    }

    private static void bad() {
        Doc.says("Part VII", "THE GROUND takes FRAMES in order: one whose CHECK is wrong is BAD, nothing else is done by it.");
        for (int i = 0; i < 24; i++) {
            for (int bit = 0; bit < 8; bit++) {
                Probe p = Probe.sending(2);
                p.house.noise(i, 1 << bit);
                Probe.is("byte " + i + " bit " + bit, p.house.receive(), -2);
                Probe.is("BAD", p.house.ground(1), 1);
                Probe.is("no gap", p.house.ground(0), 0);
                Probe.is("nothing is acknowledged", p.house.ground(3), 1);
            }
        }
        Probe p = Probe.sending(0);
        p.program(0, "emit 3\nemit 2\nemit 0\n");
        p.house.due(1, 0);
        p.house.tick(2);
        p.house.receive();
        int[] next = p.oldestFrame();
        p.house.tick(2);
        p.house.noise(5, 4);
        Probe.is("BAD, with a PACKET under way", p.house.receive(), -2);
        p.forge(0, Arrays.copyOf(next, 22));
        Probe.is("what it was piecing stays", p.house.receive(), 1);
        Probe.is("and the COUNT of the one before", p.house.ground(0), 0);
        Probe.is("whole", p.house.packet(2), 6);
    }

    private static Probe counted(int first, int second) {
        Probe p = Probe.sending(2);
        p.forge(0, first);
        p.house.receive();
        p.forge(0, second);
        p.house.receive();
        return p;
    }

    private static void gaps() {
        Doc.says("Part VII", "Else, if its COUNT is not one more (mod 256) than that of the one before that was not BAD, GAPS is one more");
        for (int first : new int[] {0, 1, 127, 128, 254, 255}) {
            for (int second : new int[] {0, 1, 2, 127, 128, 129, 253, 254, 255}) {
                Probe.is(second + " behind " + first, counted(first, second).house.ground(0), second == (first + 1) % 256 ? 0 : 1);
            }
        }
        Probe p = Probe.sending(6);
        p.house.receive();
        p.house.lose();
        p.house.receive();
        Probe.is("one", p.house.ground(0), 1);
        p.house.lose();
        p.house.lose();
        p.house.receive();
        Probe.is("two lost are one GAP", p.house.ground(0), 2);
    }

    private static void gapsAround() {
        Probe p = Probe.sending(1);
        p.house.receive();
        for (int i = 0; i < 9; i++) {
            p.house.tick(30);
            for (int j = 0; j < 30; j++) {
                Probe.is("received", p.house.receive(), 0);
            }
        }
        Probe.is("no GAP by the step from 255 to 0", p.house.ground(0), 0);
    }

    private static void dropped() {
        Doc.says("Part VII", "a PACKET that it was piecing is dropped, and it begins anew at FIRST (255: nothing of this FRAME)");
        // the second FRAME has 5 bytes of a PACKET, then one of KIND 0
        Probe p = Probe.sending(0);
        p.program(0, "emit 3\nemit 2\nemit 0\nemit 0\n");
        p.house.due(1, 0);
        p.house.tick(2);
        Probe.is("two", p.house.receive(), 2);
        Probe.is("FIRST", p.house.noise(3, 0), 5);
        p.forge(0, 9);
        Probe.is("the one behind it alone", p.house.receive(), 1);
        p.house.packet(2);
        Probe.is("its COUNT", p.house.out(1), 1);
        Probe none = Probe.sending(0);
        none.program(0, "emit 3\nemit 2\nemit 0\n");
        none.house.due(1, 0);
        none.house.tick(3);
        none.house.receive();
        Probe.is("FIRST", none.house.noise(3, 0), 255);
        none.forge(0, 9);
        Probe.is("nothing", none.house.receive(), 0);
        none.forge(0, 10, 0, 0, 255, 0, 0, 1, 7);
        Probe.is("it is dropped, not pieced on", none.house.receive(), 0);
        Probe.is("two", none.house.ground(2), 2);
    }

    private static void firstOne() {
        Doc.says("Part VII", "so it begins at the first one, too, without a GAP.");
        for (int count : new int[] {0, 1, 200, 255}) {
            Probe p = Probe.sending(1).forge(0, count, 0, 0, 4, 11, 0, 0, 0, 12, 1, 2, 3, 1, 5);
            Probe.is("from FIRST on", p.house.receive(), 1);
            Probe.is("without a GAP", p.house.ground(0), 0);
            p.house.packet(0);
            Probe.is("that one", p.outNumbers(), "12 1 2 3 1 5");
            Probe none = Probe.sending(1).forge(0, count, 0, 0, 255, 12, 1, 2, 3, 1, 5);
            Probe.is("FIRST 255", none.house.receive(), 0);
        }
        Probe bad = Probe.sending(2);
        bad.house.noise(0, 1);
        bad.house.receive();
        bad.forge(0, 77, 0, 0, 1, 25, 12, 1, 2, 3, 1, 5);
        Probe.is("behind a BAD one it is the first", bad.house.receive(), 1);
        Probe.is("without a GAP", bad.house.ground(0), 0);
    }

    private static void firsts() {
        Doc.says("CORNERS", "A FIRST of 18 .. 254 is as 255.");
        for (int first = 0; first < 256; first++) {
            int[] bytes = new int[19];
            bytes[0] = first;
            for (int i = 1; i < 19; i++) {
                bytes[i] = 14;
            }
            Probe p = Probe.sending(2).forge(3, bytes);
            Probe.is("FIRST " + first, p.house.receive(), 0);
            // of 18 bytes the PACKET that began has 18 - first, if these are no more than 4: else its number of data is wrong
            p.forge(4, first == 14 ? new int[] {1, 9, 0} : first == 15 ? new int[] {0, 1, 9, 0} : first == 16 ? new int[] {0, 0, 1, 9, 0}
                : new int[] {0, 0, 0, 1, 9, 0});
            Probe.is("goes on behind FIRST " + first, p.house.receive(), first >= 14 && first <= 17 ? 1 : 0);
        }
    }

    private static void withoutGap() {
        Doc.says("CORNERS", "Without a gap a PACKET begins at place 0 where none is under way.");
        for (int first : new int[] {0, 1, 6, 17, 18, 255}) {
            Probe p = Probe.sending(2);
            p.house.receive();
            p.forge(3, first, 20, 1, 2, 3, 1, 5, 21, 1, 2, 3, 1, 5);
            Probe.is("whatever FIRST tells: " + first, p.house.receive(), 2);
            p.house.packet(0);
            Probe.is("from place 0 on", p.house.out(0), 20);
        }
        Probe under = Probe.sending(2).forge(3, 17, 0, 0, 0, 0, 0, 0, 0, 0, 0, 0, 0, 0, 0, 0, 0, 0, 0, 20);
        under.house.receive();
        under.forge(3, 6, 1, 2, 3, 1, 5, 21, 1, 2, 3, 1, 5);
        Probe.is("where one is under way it goes on", under.house.receive(), 2);
        under.house.packet(0);
        Probe.is("it", under.outNumbers(), "20 1 2 3 1 5");
    }

    private static void kinds() {
        Doc.says("Part VII", "Where a PACKET should begin, a byte that is not 10 .. 25 ends the FRAME's data");
        for (int kind = 0; kind < 256; kind++) {
            boolean isKind = kind >= 10 && kind <= 25;
            Probe p = Probe.sending(2).forge(3, 0, kind, 1, 2, 3, 1, 5, 11, 1, 2, 3, 1, 6);
            Probe.is("byte " + kind, p.house.receive(), isKind ? 2 : 0);
            Probe.is("begins anew", p.forge(3, 255, 10, 0, 0, 0, 1, 0).house.receive(), 1);
            Probe second = Probe.sending(1).forge(3, 0, 11, 1, 2, 3, 1, 6, kind, 1, 2, 3, 1, 5);
            Probe.is("byte " + kind + " behind one", second.house.receive(), isKind ? 2 : 1);
        }
    }

    private static void numbersOfData() {
        Doc.says("Part VII", "else its fourth next byte tells how many data it has, 1 .. 4 (another one: the PACKET is dropped, the FRAME's data end).");
        for (int n = 0; n < 256; n++) {
            boolean isNumber = n >= 1 && n <= 4;
            int[] bytes = new int[19];
            int[] head = {0, 10, 30, 31, 32, n};
            System.arraycopy(head, 0, bytes, 0, 6);
            Arrays.fill(bytes, 6, 19, 50);
            int[] next = {11, 1, 2, 3, 1, 9};
            System.arraycopy(next, 0, bytes, isNumber ? 6 + n : 6, 6);
            Probe p = Probe.sending(2).forge(3, bytes);
            Probe.is(n + " data", p.house.receive(), isNumber ? 2 : 0);
            Probe.is("bytes", p.house.packet(0), isNumber ? 5 + n : -1);
            Probe.is("none is under way", p.forge(4, 12, 1, 2, 3, 1, 4, 0).house.receive(), 1);
            // the same, with the fourth next byte in the next FRAME
            int[] late = new int[19];
            late[0] = 14;
            System.arraycopy(head, 1, late, 15, 4);
            Probe q = Probe.sending(3).forge(3, late);
            Probe.is("four bytes", q.house.receive(), 0);
            int[] rest = new int[18];
            rest[0] = n;
            System.arraycopy(next, 0, rest, isNumber ? 1 + n : 1, 6);
            q.forge(4, rest);
            Probe.is(n + " data in the next FRAME", q.house.receive(), isNumber ? 2 : 0);
            Probe.is("none is under way", q.forge(4, 12, 1, 2, 3, 1, 4, 0).house.receive(), 1);
        }
    }

    private static void archive() {
        Doc.says("Part VII", "PACKETS that are whole come to the ARCHIVE, at most 60 (further ones are gone).");
        Probe p = Probe.sending(30);
        for (int i = 0; i < 20; i++) {
            Probe.is("three", p.forge(3, 0, 10, i, 0, 0, 1, 1, 10, i, 0, 0, 1, 2, 10, i, 0, 0, 1, 3).house.receive(), 3);
            Probe.is("in the ARCHIVE", p.house.ground(2), 3 * i + 3);
        }
        Doc.says("CORNERS", "receive() counts those that find no place in the ARCHIVE, too.");
        Probe.is("three", p.forge(3, 0, 25, 99, 0, 0, 1, 1, 25, 99, 0, 0, 1, 2, 25, 99, 0, 0, 1, 3).house.receive(), 3);
        Probe.is("no more", p.house.ground(2), 60);
        p.house.packet(59);
        Probe.is("the last", p.outNumbers(), "10 19 0 0 1 3");
        p.house.packet(0);
        Probe.is("the first", p.outNumbers(), "10 0 0 0 1 1");
        Probe.is("none further", p.house.packet(60), -1);
        Probe two = Probe.sending(30);
        for (int i = 0; i < 29; i++) {
            two.forge(3, 0, 10, i, 0, 0, 4, 1, 1, 1, 1, 10, i, 0, 0, 4, 1, 1, 1, 1);
            two.house.receive();
        }
        Probe.is("58", two.house.ground(2), 58);
        Probe.is("three", two.forge(3, 0, 10, 77, 0, 0, 1, 1, 10, 78, 0, 0, 1, 2, 10, 79, 0, 0, 1, 3).house.receive(), 3);
        Probe.is("two of them find a place", two.house.ground(2), 60);
        two.house.packet(59);
        Probe.is("the last", two.house.out(1), 78);
    }

    private static void packet() {
        Doc.says("Promise 26", "PACKET i of the ARCHIVE, from 0 on, is written: how many bytes; NONE if there is none such.");
        Probe.is("none", new MissionHouse().packet(0), -1);
        Probe p = Probe.sending(0);
        p.program(0, "emit 0\nemit 1\nemit 2\nemit 3\n");
        p.house.due(1, 0);
        p.house.tick(2);
        p.house.receive();
        p.house.receive();
        for (int i = 0; i < 4; i++) {
            Probe.is("bytes", p.house.packet(i), 6 + i);
            Probe.is("KIND", p.house.out(0), 10 + i);
            Probe.is("the last byte", p.house.out(5 + i), 0);
            Probe.is("no more", p.house.out(6 + i), -1);
        }
        for (int i : new int[] {-1, 4, 59, 60, Integer.MIN_VALUE, Integer.MAX_VALUE}) {
            Probe.is("packet " + i, p.house.packet(i), -1);
            Probe.is("nothing is written", p.outNumbers(), "13 0 0 1 4 0 0 0 0");
        }
        int archived = Twins.busy().house.ground(2);
        Twins.beyond("packet", 0, archived - 1, (house, x) -> house.packet(x));
    }

    private static void ground() {
        Doc.says("Promise 29", "NONE for another what.");
        Twins.beyond("what", 0, 5, (house, x) -> house.ground(x));
        Doc.says("Promise 29", "Of THE GROUND, what 0: GAPS, 1: FRAMES BAD, 2: PACKETS in the ARCHIVE, 3: commands kept, 4: those of them that are to be sent,"
            + " 5: the number of the next one that is told.");
        Probe p = Probe.sending(12);
        p.forge(3, 0, 10, 0, 0, 0, 1, 1, 10, 1, 0, 0, 1, 2, 10, 2, 0, 0, 1, 3).house.receive();
        for (int i = 0; i < 2; i++) {
            p.house.lose();
            p.house.receive();
        }
        p.house.noise(9, 1);
        p.house.receive();
        p.house.noise(9, 1);
        p.house.receive();
        Probe.is("GAPS", p.house.ground(0), 2);
        Probe.is("BAD", p.house.ground(1), 2);
        Probe.is("PACKETS", p.house.ground(2), 3);
        for (int i = 0; i < 6; i++) {
            p.command("on 1");
        }
        p.house.send(0);
        p.house.send(1);
        Probe.is("kept", p.house.ground(3), 6);
        Probe.is("to be sent", p.house.ground(4), 4);
        Probe.is("the next one", p.house.ground(5), 7);
    }
}
