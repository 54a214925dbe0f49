/** Of Part VI MODES and MONITORS, and promises 15 and 16: mode, monitor. */
final class EdgesModes {
    static void all() {
        rows();
        modes();
        going();
        safeAfterwards();
        settings();
        textOfMonitors();
        numbersOfMonitors();
        counting();
        soon();
        noMore();
        lostVariables();
    }

    private static void rows() {
        Doc.says("Promise 15", "The rows of a MODE: 1; NONE if there is no such MODE, or one is not 0 .. 255.");
        Twins.range("MODE", 0, 3, 1, (house, x) -> house.mode(x, 1, 1));
        for (int mode = 0; mode < 4; mode++) {
            int m = mode;
            Twins.range("LOADS", 0, 255, 1, (house, x) -> house.mode(m, x, 7));
            Twins.range("PROGRAMS", 0, 255, 1, (house, x) -> house.mode(m, 7, x));
        }
        Probe p = Probe.seen();
        p.house.mode(0, 255, 255);
        Probe.is("the rows of the MODE that is: not on by them", p.house.served(0, 0), 0);
        p.sent("mode 0");
        Probe.is("but by going there", p.house.served(0, 0), 1);
    }

    private static void modes() {
        Doc.says("Part VI", "MODES 0 (SAFE) .. 3, 0 at first, each with a row of LOADS that are on, and of PROGRAMS that stay, eight bits each (0 at first).");
        Probe first = Probe.seen();
        Probe.is("0 at first", first.house.ship(5), 0);
        for (int m = 3; m >= 0; m--) {
            Probe p = Probe.seen();
            for (int i = 0; i < 8; i++) {
                p.program(i, "until bat < 0\n");
                p.house.due(1, i);
            }
            p.house.tick(1);
            p.sent("on 3");
            p.sent("mode " + m);
            Probe.is("mode", p.house.ship(5), m);
            for (int i = 0; i < 8; i++) {
                Probe.is("no LOAD is on by it at first", p.house.served(i, 0), 0);
                Probe.is("no PROGRAM stays at first", p.house.runs(i, 1), 0);
            }
        }
    }

    private static void going() {
        Doc.says("Part VI", "To go to a MODE: LOADS are on just as its row says; PROGRAMS that run and do not stay end (the one that does it, too).");
        for (int m = 0; m < 4; m++) {
            for (int bit = 0; bit < 8; bit++) {
                Probe p = Probe.seen();
                p.house.mode(m, 1 << bit, 255 - (1 << bit));
                for (int i = 0; i < 8; i++) {
                    p.program(i, "on " + i + "\nuntil bat < 0\n");
                    p.house.due(1, i);
                }
                p.house.tick(1);
                p.sent("mode " + m);
                for (int i = 0; i < 8; i++) {
                    Probe.is("on " + i, p.house.served(i, 0), i == bit ? 1 : 0);
                    p.state(i, i == bit ? 0 : 1, i == bit ? -1 : 1, 0);
                }
                Probe.is("no EVENT", p.house.ship(6), 0);
            }
        }
        for (int k = 0; k < 8; k++) {
            for (int stays = 0; stays < 2; stays++) {
                Probe p = new Probe();
                p.house.mode(2, 0, stays << k);
                p.program(k, "mode 2\nset v1 1\nwait 3\n");
                p.house.due(1, k);
                p.house.tick(1);
                p.variable(1, stays);
                p.state(k, stays, stays == 1 ? 3 : -1, 3 * stays);
            }
        }
        Probe waiting = Probe.seen();
        waiting.house.mode(1, 0, 0b10);
        waiting.program(1, "wait 9\nset v1 1\n");
        waiting.house.due(1, 1);
        waiting.house.tick(4);
        waiting.sent("mode 1");
        waiting.state(1, 1, 1, 6);
        waiting.sent("mode 2");
        waiting.state(1, 0, -1, 0);
    }

    private static void safeAfterwards() {
        Doc.says("CORNERS", "What is on, or runs, in SAFE mode afterwards, by programs, commands, MONITORS (in the same TICK, too) or DUE STARTS, is so.");
        Probe program = new Probe();
        program.house.mode(0, 0, 1);
        program.program(0, "mode 0\non 3\nrun 1\nrun 0\n");
        program.program(1, "wait 9\n");
        program.house.due(1, 0);
        program.house.tick(1);
        Probe.is("SAFE", program.house.ship(5), 0);
        Probe.is("on by a program", program.house.served(3, 0), 1);
        program.state(0, 1, 0, 0);
        program.house.tick(1);
        Probe.is("runs by a program, and is ended by the next one that goes there", program.house.runs(1, 1), 1);
        Probe command = Probe.seen();
        command.program(1, "until bat < 0\n");
        command.sent("mode 0");
        command.sent("on 5");
        command.sent("run 1");
        command.house.tick(3);
        Probe.is("on by a command", command.house.served(5, 0), 1);
        command.state(1, 1, 0, 0);
        Probe monitor = new Probe();
        monitor.program(1, "wait 9\n");
        monitor.monitor(2, 2, 8, "bat > 0");
        monitor.monitor(3, 2, 1, "bat > 0");
        monitor.house.tick(2);
        monitor.state(1, 1, 0, 0);
        monitor.house.tick(1);
        monitor.state(1, 1, 1, 9);
        Probe due = new Probe();
        due.program(1, "on 2\nwait 9\n");
        due.monitor(0, 1, 8, "bat > 0");
        due.house.due(2, 1);
        due.house.tick(2);
        due.state(1, 1, 2, 9);
        Probe.is("on by what was due", due.house.served(2, 0), 1);
        Probe same = new Probe();
        same.program(1, "on 2\nwait 9\n");
        same.monitor(0, 1, 8, "bat > 0");
        same.house.due(1, 1);
        same.house.tick(1);
        same.state(1, 0, -1, 0);
        Probe.is("but MONITORS come behind programs", same.house.served(2, 0), 0);
    }

    private static int monitor(MissionHouse house, int k, int n, int act) {
        house.feed(0x6576203e, 0x20300000, 0, 0, 0);
        house.end(6);
        return house.monitor(k, n, act);
    }

    private static void settings() {
        Doc.says("Promise 16", "NONE if one can't be; WRONG.");
        Twins.range("MONITOR", 0, 7, 1, (house, x) -> house.monitor(x, 1, 0));
        Twins.range("N", 1, 99, 1, (house, x) -> house.monitor(0, x, 0));
        Twins.range("act", 0, 8, 1, (house, x) -> house.monitor(0, 1, x));
        Probe.is("ev > 0", monitor(new MissionHouse(), 7, 99, 8), 1);
        Probe.is("k 8", monitor(new MissionHouse(), 8, 99, 8), -1);
        Probe.is("N 100", monitor(new MissionHouse(), 7, 100, 8), -1);
        Probe.is("N 0", monitor(new MissionHouse(), 7, 0, 8), -1);
        Probe.is("act 9", monitor(new MissionHouse(), 7, 99, 9), -1);
        Probe.is("act -1", monitor(new MissionHouse(), 7, 99, -1), -1);
    }

    private static void textOfMonitors() {
        Doc.says("Promise 16", "THE TAPE is the CONDITION of MONITOR k (nothing: it is set no more), N and what it does: 1, it has counted 0 and never acted.");
        for (int k = 0; k < 8; k++) {
            Probe p = new Probe();
            p.monitor(k, 3, 8, "bat > 0");
            p.house.tick(2);
            Probe.is("nothing on THE TAPE", p.house.monitor(k, 3, 8), 1);
            p.house.tick(9);
            Probe.is("it is set no more", p.house.ship(6), 0);
            p.monitor(k, 3, 8, "bat > 0");
            p.house.tick(2);
            p.monitor(k, 3, 8, "bat > 0");
            p.house.tick(2);
            Probe.is("it has counted 0", p.house.ship(6), 0);
            p.house.tick(1);
            Probe.is("3", p.house.ship(6), 1);
            Probe acted = Probe.seen();
            acted.program(1, "add v1 1\n");
            acted.monitor(k, 1, 1, "bat > 0");
            acted.house.tick(1);
            acted.monitor(k, 1, 1, "bat > 0");
            acted.house.tick(2);
            Probe.is("it acts anew", acted.house.ship(6), 2);
            Probe.is("it never acted: it runs its PROGRAM", acted.house.word(1, 1), 2);
            Probe unset = Probe.seen();
            unset.program(1, "add v1 1\n");
            unset.monitor(k, 1, 1, "bat > 0");
            unset.house.tick(1);
            unset.house.monitor(k, 1, 1);
            unset.house.tick(1);
            unset.monitor(k, 1, 1, "bat > 0");
            unset.house.tick(2);
            Probe.is("it never acted: it runs its PROGRAM", unset.house.word(1, 1), 2);
        }
        Probe wrong = new Probe();
        wrong.monitor(0, 3, 8, "bat > 0");
        wrong.house.tick(2);
        Probe.is("wrong", wrong.monitor(0, 99, 0, "bat > 00"), -1007);
        wrong.house.tick(1);
        Probe.is("it has counted on", wrong.house.ship(6), 1);
    }

    private static void numbersOfMonitors() {
        Doc.says("Part VI", "MONITORS 0 .. 7: a CONDITION, a number N of TICKS (1 .. 99), a PROGRAM to run (0 .. 7) or 8 (go to SAFE).");
        for (int n : new int[] {1, 2, 98, 99}) {
            for (int act = 0; act <= 8; act++) {
                Probe p = Probe.seen();
                p.house.mode(0, 0b1000, 0);
                p.house.mode(1, 0, 255);
                p.sent("mode 1");
                if (act < 8) {
                    p.program(act, "wait 7\n");
                }
                p.monitor(7 - act % 8, n, act, "bat > 0");
                p.house.tick(n - 1);
                Probe.is("not yet", p.house.ship(6), 0);
                p.house.tick(1);
                Probe.is("an EVENT", p.house.ship(6), 1);
                Probe.is("mode", p.house.ship(5), act == 8 ? 0 : 1);
                Probe.is("by the row of SAFE", p.house.served(3, 0), act == 8 ? 1 : 0);
                for (int i = 0; i < 8; i++) {
                    p.state(i, i == act ? 1 : 0, i == act ? 0 : -1, 0);
                }
            }
        }
    }

    private static void counting() {
        Doc.says("Part VI", "At a TICK, from 0 on, each that is set: if its CONDITION is true (a LOST V: false) it counts one more, else 0 again; if it counts N it acts: that is an EVENT");
        Probe p = new Probe();
        p.monitor(5, 3, 8, "seen = 1");
        for (int round = 0; round < 3; round++) {
            p.house.station(0, 0, 3600, 0);
            p.house.tick(2);
            p.house.station(0, 0, 0, 0);
            p.house.tick(1);
        }
        Probe.is("two at a time are not three", p.house.ship(6), 0);
        p.house.station(0, 0, 3600, 0);
        p.house.tick(3);
        Probe.is("three", p.house.ship(6), 1);
        Probe order = new Probe();
        for (int k = 7; k >= 0; k--) {
            order.monitor(k, 1, 7 - k, "ev = " + k);
        }
        order.house.tick(1);
        Probe.is("each sees the EVENT of the one ahead", order.house.ship(6), 8);
        Probe backward = new Probe();
        for (int k = 7; k >= 0; k--) {
            backward.monitor(k, 1, k, "ev = " + (7 - k));
        }
        backward.house.tick(1);
        Probe.is("7 alone", backward.house.ship(6), 1);
        backward.house.tick(7);
        Probe.is("one each TICK", backward.house.ship(6), 8);
    }

    /** A MONITOR of N 1 over "seen = 1", made true for one TICK alone. */
    private static void act(Probe p) {
        p.house.station(0, 0, 3600, 0);
        p.house.tick(1);
        p.house.station(0, 0, 0, 0);
    }

    private static void soon() {
        Doc.says("Part VI", "and if it is less than 60 TICKS behind the one before of the same MONITOR, it goes to SAFE, whatever it was to do");
        for (int between : new int[] {2, 58, 59, 60, 61, 100}) {
            Probe p = new Probe();
            p.house.mode(0, 0b100, 0);
            p.program(1, "add v1 1\n");
            p.monitor(6, 1, 1, "seen = 1");
            act(p);
            p.house.tick(between - 1);
            p.variable(1, 1);
            act(p);
            Probe.is("an EVENT, " + between, p.house.ship(6), 2);
            Probe.is("SAFE, " + between, p.house.served(2, 0), between < 60 ? 1 : 0);
            p.house.tick(1);
            p.variable(1, between < 60 ? 1 : 2);
            p.house.tick(58);
            act(p);
            Probe.is("60 behind that", p.house.ship(6), 3);
            p.house.tick(1);
            p.variable(1, between < 60 ? 2 : 3);
            p.house.tick(57);
            act(p);
            p.house.tick(1);
            Probe.is("59 behind that: SAFE", p.house.served(2, 0), 1);
            p.variable(1, between < 60 ? 2 : 3);
        }
        Probe first = new Probe();
        first.program(1, "add v1 1\n");
        first.monitor(6, 1, 1, "bat > 0");
        first.house.tick(2);
        first.variable(1, 1);
        Probe others = new Probe();
        others.house.mode(0, 0b100, 0);
        for (int k = 0; k < 8; k++) {
            others.monitor(k, k + 1, 1, "bat > 0");
        }
        others.house.tick(8);
        Probe.is("one each TICK", others.house.ship(6), 8);
        Probe.is("others do not matter", others.house.served(2, 0), 0);
    }

    private static void noMore() {
        Doc.says("Part VI", "it counts on from there, and acts no more till it was false.");
        Probe p = Probe.seen();
        p.monitor(0, 3, 8, "seen = 1");
        p.house.tick(3);
        Probe.is("acts", p.house.ship(6), 1);
        p.house.tick(500);
        Probe.is("no more", p.house.ship(6), 1);
        p.house.station(0, 0, 0, 0);
        p.house.tick(1);
        p.house.station(0, 0, 3600, 0);
        p.house.tick(2);
        Probe.is("it was false: two", p.house.ship(6), 1);
        p.house.tick(1);
        Probe.is("three", p.house.ship(6), 2);
        p.house.tick(500);
        Probe.is("no more", p.house.ship(6), 2);
    }

    private static void lostVariables() {
        Doc.says("CORNERS", "A LOST V in a MONITOR is no EVENT.");
        for (int v = 0; v < 8; v++) {
            Probe p = new Probe();
            p.monitor(0, 2, 8, "v" + v + " > -1");
            p.monitor(1, 1, 8, "v" + v + " < -1");
            p.house.tick(64 + v);
            Probe.is("true for long", p.house.ship(6), 1);
            p.house.flip(v, 3);
            p.house.flip(v, 5);
            p.house.tick(9);
            Probe.is("false, and no EVENT", p.house.ship(6), 1);
            p.house.flip(v, 3);
            p.house.tick(1);
            Probe.is("with one wrong bit it is no LOST one: it counts 1", p.house.ship(6), 1);
            p.house.tick(1);
            Probe.is("2", p.house.ship(6), 2);
        }
    }
}
