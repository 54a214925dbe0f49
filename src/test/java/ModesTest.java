/** Promises 15 and 16: modes, and monitors as they watch. */
final class ModesTest {
    public static void main(String[] args) {
        rows();
        going();
        counting();
        acting();
        soon();
        order();
        unset();
        Probe.finish("ModesTest");
    }

    private static void rows() {
        MissionHouse house = new MissionHouse();
        Probe.is("mode -1", house.mode(-1, 0, 0), -1);
        Probe.is("mode 4", house.mode(4, 0, 0), -1);
        Probe.is("loads -1", house.mode(0, -1, 0), -1);
        Probe.is("loads 256", house.mode(0, 256, 0), -1);
        Probe.is("programs -1", house.mode(0, 0, -1), -1);
        Probe.is("programs 256", house.mode(0, 0, 256), -1);
        Probe.is("the greatest", house.mode(3, 255, 255), 1);
        Probe.is("a row alone does nothing", house.mode(0, 255, 255), 1);
        Probe.is("not on", house.served(0, 0), 0);
    }

    private static void going() {
        Probe p = new Probe();
        p.house.mode(2, 0b10000110, 0b01000010);
        p.program(0, "wait 90\n");
        p.program(1, "on 0\non 1\nwait 2\nmode 2\nset v1 1\nwait 90\n");
        p.program(5, "wait 1\nadd v5 1\ngo 0\n");
        p.program(6, "wait 90\n");
        for (int k : new int[] {0, 1, 5, 6}) {
            p.house.due(1, k);
        }
        p.house.tick(3);
        Probe.is("mode", p.house.ship(5), 2);
        int[] on = {0, 1, 1, 0, 0, 0, 0, 1};
        int[] runs = {0, 1, 0, 0, 0, 0, 1, 0};
        for (int i = 0; i < 8; i++) {
            Probe.is("on " + i, p.house.served(i, 0), on[i]);
            Probe.is("runs " + i, p.house.runs(i, 1), runs[i]);
        }
        Probe.is("the one that stays goes on", p.house.word(1, 1), 1);
        Probe.is("one behind it ended ahead of its turn", p.house.word(5, 1), 1);
        Probe.is("no event", p.house.ship(6), 0);

        Probe self = new Probe();
        self.house.mode(3, 0, 0b11111110);
        self.program(0, "mode 3\nset v1 1\n");
        self.house.due(1, 0);
        self.house.tick(1);
        Probe.is("mode", self.house.ship(5), 3);
        Probe.is("the one that does it ends", self.house.runs(0, 1), 0);
        Probe.is("at once", self.house.word(1, 1), 0);

        Probe same = new Probe();
        same.house.mode(0, 1, 1);
        same.program(0, "on 4\nmode 0\nwait 5\n");
        same.house.due(1, 0);
        same.house.tick(1);
        Probe.is("to the same mode", same.house.served(4, 0), 0);
        Probe.is("to the same mode", same.house.served(0, 0), 1);
    }

    private static void counting() {
        Probe p = new Probe();
        p.program(0, "set v0 1\nwait 2\nset v0 0\nwait 1\nset v0 1\n");
        p.program(7, "add v7 1\n");
        p.monitor(4, 3, 7, "v0 = 1");
        p.house.due(1, 0);
        p.house.tick(3);
        Probe.is("1, 2 true, 3 false", p.house.ship(6), 0);
        p.house.tick(2);
        Probe.is("4, 5 true", p.house.ship(6), 0);
        p.house.tick(1);
        Probe.is("the third in a row: an event", p.house.ship(6), 1);
        Probe.is("it runs from the next tick on", p.house.runs(7, 1), 1);
        Probe.is("it runs from the next tick on", p.house.word(7, 1), 0);
        p.house.tick(1);
        Probe.is("there", p.house.word(7, 1), 1);
        p.house.tick(200);
        Probe.is("it acts no more till it was false", p.house.ship(6), 1);
        Probe.is("nor does the program run", p.house.word(7, 1), 1);

        Probe lost = new Probe();
        lost.monitor(0, 1, 8, "v5 < 300");
        lost.house.flip(5, 3);
        lost.house.flip(5, 9);
        lost.house.tick(4);
        Probe.is("a lost one is false, and no event", lost.house.ship(6), 0);
        lost.house.tick(1);
        Probe.is("byte 0 at 5: lost, and acts", lost.house.ship(6), 2);
    }

    private static void acting() {
        Probe p = new Probe();
        p.house.mode(0, 0b100, 0b10);
        p.house.mode(1, 0, 255);
        p.program(0, "mode 1\non 6\nwait 90\n");
        p.program(1, "wait 90\n");
        p.monitor(0, 4, 8, "mode = 1");
        p.house.due(1, 0);
        p.house.due(1, 1);
        p.house.tick(3);
        Probe.is("mode 1", p.house.ship(5), 1);
        p.house.tick(1);
        Probe.is("safe", p.house.ship(5), 0);
        Probe.is("6 is off", p.house.served(6, 0), 0);
        Probe.is("2 is on", p.house.served(2, 0), 1);
        Probe.is("0 ends", p.house.runs(0, 1), 0);
        Probe.is("1 stays", p.house.runs(1, 1), 1);
        Probe.is("one event", p.house.ship(6), 1);
    }

    /** A monitor that acts again within less than 60 ticks goes to SAFE. */
    private static void soon() {
        for (int between = 58; between <= 61; between++) {
            Probe p = new Probe();
            p.house.mode(0, 0b100, 0);
            p.program(0, "set v0 1\nwait 1\nset v0 0\nwait " + (between - 1) + "\nset v0 1\n");
            p.program(1, "set v1 1\nend\n");
            p.monitor(2, 1, 1, "v0 = 1");
            p.house.due(1, 0);
            p.house.tick(1);
            Probe.is("acts", p.house.ship(6), 1);
            p.house.tick(1);
            Probe.is("runs 1", p.house.word(1, 1), 1);
            p.sent("on 0");
            p.program(1, "set v1 2\nend\n");
            p.house.tick(between);
            Probe.is("acted again", p.house.ship(6), 2);
            Probe.is("safe, " + between, p.house.served(2, 0), between < 60 ? 1 : 0);
            Probe.is("no run then", p.house.word(1, 1), between < 60 ? 1 : 2);
        }
        Probe renewed = new Probe();
        renewed.house.mode(0, 0b100, 0);
        renewed.program(1, "set v1 1\nend\n");
        renewed.monitor(2, 1, 1, "v0 = 0");
        renewed.house.tick(3);
        renewed.monitor(2, 1, 1, "v0 = 0");
        renewed.house.tick(2);
        Probe.is("told anew it counts anew", renewed.house.ship(6), 2);
        Probe.is("and never acted", renewed.house.served(2, 0), 0);
        Probe other = new Probe();
        other.house.mode(0, 0b100, 0);
        other.program(1, "wait 1\n");
        other.monitor(2, 1, 1, "v0 = 0");
        other.monitor(3, 2, 1, "v0 = 0");
        other.house.tick(2);
        Probe.is("another monitor does not matter", other.house.served(2, 0), 0);
        Probe.is("two events", other.house.ship(6), 2);
    }

    private static void order() {
        Probe p = new Probe();
        p.house.mode(0, 1, 0);
        p.program(4, "wait 9\n");
        p.monitor(1, 1, 8, "turn = 0");
        p.monitor(2, 1, 4, "turn = 0");
        p.monitor(3, 1, 8, "ev = 9");
        p.house.tick(1);
        Probe.is("run behind safe in the same tick", p.house.runs(4, 1), 1);
        Probe q = new Probe();
        q.program(4, "wait 9\n");
        q.monitor(2, 1, 8, "turn = 0");
        q.monitor(1, 1, 4, "turn = 0");
        q.house.tick(1);
        Probe.is("safe behind run in the same tick", q.house.runs(4, 1), 0);
        Probe ev = new Probe();
        ev.program(4, "wait 9\n");
        ev.monitor(0, 1, 4, "turn = 0");
        ev.monitor(5, 1, 4, "ev = 1");
        ev.house.tick(1);
        Probe.is("the event of one is seen by the next", ev.house.ship(6), 2);
        Probe power = new Probe();
        power.house.mode(1, 2, 255);
        power.house.load(1, 1000, 0);
        power.program(4, "mode 1\n");
        power.house.due(1, 4);
        power.monitor(0, 1, 4, "used = 1000");
        power.house.tick(1);
        Probe.is("not used yet", power.house.ship(6), 0);
        power.house.tick(1);
        Probe.is("used", power.house.ship(6), 1);
    }

    private static void unset() {
        Probe p = new Probe();
        p.monitor(0, 2, 8, "turn = 0");
        p.house.tick(1);
        Probe.is("nothing on the tape", p.house.monitor(0, 1, 8), 1);
        p.house.tick(5);
        Probe.is("it is set no more", p.house.ship(6), 0);
        p.monitor(0, 2, 8, "turn = 0");
        Probe.is("wrong", p.monitor(0, 1, 8, "turn = x"), -1007);
        p.house.tick(1);
        Probe.is("wrong changes nothing", p.house.ship(6), 0);
        p.house.tick(1);
        Probe.is("it counts 2", p.house.ship(6), 1);
    }
}
