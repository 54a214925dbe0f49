/** Part IV, and promises 11, 12, 18, 19 and 20: power, load, tick, ship, served. */
final class EdgesPower {
    static void all() {
        power();
        loads();
        atFirst();
        ticks();
        tickOrder();
        sunAndBattery();
        justEnough();
        byRank();
        atMostCapacity();
        ship();
        served();
    }

    /** A ship that is seen, with these LOADS on at CLOCK 0. */
    private static Probe switched(int row) {
        Probe p = Probe.seen();
        p.house.mode(1, row, 255);
        p.sent("mode 1");
        return p;
    }

    private static void loadsServed(Probe p, int row) {
        for (int i = 0; i < 8; i++) {
            Probe.is("served " + i, p.house.served(i, 1), row >> i & 1);
            Probe.is("on " + i, p.house.served(i, 0), row >> i & 1);
        }
    }

    private static void power() {
        Doc.says("Promise 11", "CAPACITY (0 .. 1,000,000; BATTERY is at most that then) and SUN (0 .. 10,000): 1; NONE if one can't be.");
        Twins.range("CAPACITY", 0, 1000000, 1, (house, x) -> house.power(x, 5));
        Twins.range("SUN", 0, 10000, 1, (house, x) -> house.power(5, x));
        MissionHouse house = new MissionHouse();
        house.power(1001, 0);
        Probe.is("more capacity does not fill it", house.ship(3), 1000);
        house.power(1000, 0);
        Probe.is("as much", house.ship(3), 1000);
        house.power(999, 0);
        Probe.is("one less", house.ship(3), 999);
        house.power(-1, 10);
        Probe.is("refused", house.ship(3), 999);
        house.power(0, 10001);
        Probe.is("refused, for its SUN", house.ship(3), 999);
        house.power(0, 0);
        Probe.is("none", house.ship(3), 0);
        house.power(1000000, 10000);
        for (int i = 0; i < 2; i++) {
            house.tick(50);
        }
        Probe.is("as much as there may be", house.ship(3), 1000000);
        house.tick(1);
        Probe.is("no more", house.ship(3), 1000000);
    }

    private static void loads() {
        Doc.says("Promise 12", "A LOAD's units and RANK: 1; NONE if one can't be.");
        Twins.range("LOAD", 0, 7, 1, (house, x) -> house.load(x, 5, 5));
        for (int load = 0; load < 8; load++) {
            int i = load;
            Twins.range("units", 0, 1000, 1, (house, x) -> house.load(i, x, 0));
            Twins.range("RANK", 0, 9, 1, (house, x) -> house.load(i, 50, x));
        }
        Doc.says("Part IV", "LOADS have units 0 .. 1000 and a RANK 0 .. 9");
        for (int i = 0; i < 8; i++) {
            Probe p = switched(1 << i);
            p.house.load(i, 1000, 9);
            p.house.tick(1);
            Probe.is("1000 used", p.house.ship(4), 1000);
            Probe.is("1000 and 100 less 1000", p.house.ship(3), 100);
            p.house.load(i, 0, 0);
            p.house.tick(1);
            Probe.is("0 used", p.house.ship(4), 0);
        }
    }

    private static void atFirst() {
        Doc.says("Part IV", "all 0 and off at first; CAPACITY 1,000, BATTERY that, SUN 100 at first.");
        MissionHouse off = new MissionHouse();
        off.tick(1);
        for (int i = 0; i < 8; i++) {
            Probe.is("off", off.served(i, 0) + off.served(i, 1), 0);
        }
        Probe.is("BATTERY", off.ship(3), 1000);
        Probe p = switched(255);
        p.house.tick(1);
        loadsServed(p, 255);
        Probe.is("0 units", p.house.ship(4), 0);
        p.house.load(4, 900, 0);
        p.house.tick(1);
        Probe.is("1000 and 100 less 900", p.house.ship(3), 200);
        p.house.load(4, 0, 0);
        p.house.tick(8);
        Probe.is("eight times 100", p.house.ship(3), 1000);
        p.house.tick(1);
        Probe.is("CAPACITY", p.house.ship(3), 1000);
        p.house.power(0, 10);
        p.house.load(1, 6, 0);
        p.house.load(0, 6, 0);
        p.house.tick(1);
        Probe.is("the same RANK 0 at first: by number", p.house.served(0, 1), 1);
        Probe.is("the same RANK 0 at first: by number", p.house.served(1, 1), 0);
    }

    private static void ticks() {
        Doc.says("Promise 18", "So many TICKS, 0 .. 500: THE CLOCK; NONE for another n.");
        Probe.is("none", new MissionHouse().tick(0), 0);
        Probe.is("one", new MissionHouse().tick(1), 1);
        Probe.is("the most", new MissionHouse().tick(500), 500);
        Twins.beyond("TICKS", 0, 500, (house, x) -> house.tick(x));
        Twins.refused("no TICK", Twins::busy, 9, house -> house.tick(0));
        Probe p = Probe.begun("add v1 1\nwait 1\ngo 0\n");
        p.house.tick(500);
        Probe.is("500 of them", p.house.word(1, 1), 500 % 256);
        Probe.is("a further one", p.house.tick(1), 501);
        Probe.is("a further one", p.house.ship(0), 501);
    }

    private static void tickOrder() {
        Doc.says("Part IV", "A TICK is one second: THE CLOCK is one more; then, in this order: power, memory, due starts, programs, monitors, the link.");
        Probe clock = Probe.begun("emit 0\n");
        clock.house.orbit(100, 0, 36, 36);
        clock.house.power(500, 10);
        clock.house.load(1, 5, 0);
        clock.house.mode(1, 2, 255);
        clock.house.station(0, 0, 1, 0);
        clock.sent("mode 1");
        clock.house.tick(1);
        Probe.is("THE CLOCK first: in the SHADOW of second 1", clock.house.ship(3), 495);
        Probe power = Probe.begun("on 1\nif bat = 500 go 3\nend\nset v7 1\n");
        power.house.power(500, 0);
        power.house.load(1, 5, 0);
        power.house.tick(1);
        Probe.is("power is ahead of programs", power.house.served(1, 1), 0);
        Probe.is("power is ahead of programs", power.house.word(7, 1), 1);
        Probe memory = Probe.begun("if v1 = 0 go 2\nend\nset v7 1\n");
        memory.house.flip(1, 3);
        memory.house.flip(1, 5);
        memory.house.tick(1);
        Probe.is("memory is ahead of programs", memory.house.word(7, 1), 1);
        Probe due = Probe.begun("set v7 1\n");
        due.house.tick(1);
        Probe.is("due starts are ahead of programs", due.house.word(7, 1), 1);
        Probe monitor = Probe.begun("set v7 1\n");
        monitor.monitor(0, 1, 3, "v7 = 1");
        monitor.house.tick(1);
        Probe.is("programs are ahead of monitors", monitor.house.ship(6), 1);
        Probe.is("what a monitor runs begins at the next TICK", monitor.house.runs(3, 1), 1);
        Probe link = Probe.seen();
        link.sent("on 0");
        link.program(0, "emit 0\n");
        link.house.due(1, 0);
        link.house.tick(1);
        Probe.is("programs are ahead of the link", link.house.receive(), 1);
    }

    private static void sunAndBattery() {
        Doc.says("Part IV", "POWER: SUN (0 if in SHADOW) and BATTERY are there.");
        for (int shadow = 0; shadow < 2; shadow++) {
            Probe p = switched(4);
            p.house.power(30, 12);
            p.house.orbit(60, 0, 0, 3600 * shadow);
            p.house.load(2, 42, 0);
            p.house.tick(1);
            Probe.is("42 of 30 and 12", p.house.served(2, 1), 1 - shadow);
            Probe.is("what is left", p.house.ship(3), shadow == 1 ? 30 : 0);
            Probe q = switched(4);
            q.house.power(30, 12);
            q.house.orbit(60, 0, 0, 3600 * shadow);
            q.house.load(2, shadow == 1 ? 30 : 43, 0);
            q.house.tick(1);
            Probe.is("30 of 30, 43 of 42", q.house.served(2, 1), shadow);
        }
        Probe none = switched(4);
        none.house.power(0, 0);
        none.house.tick(1);
        Probe.is("0 units of nothing", none.house.served(2, 1), 1);
        none.house.load(2, 1, 0);
        none.house.tick(1);
        Probe.is("1 unit of nothing", none.house.served(2, 1), 0);
    }

    private static void justEnough() {
        Doc.says("Part IV", "each whose units are not more than what is left of both; another one goes off, which is an EVENT.");
        Probe p = switched(0b111);
        p.house.power(50, 10);
        p.house.load(0, 20, 0);
        p.house.load(1, 30, 1);
        p.house.load(2, 10, 2);
        p.house.tick(1);
        loadsServed(p, 0b111);
        Probe.is("all was used", p.house.ship(3), 0);
        Probe.is("no EVENT", p.house.ship(6), 0);
        p.house.tick(1);
        loadsServed(p, 0b100);
        Probe.is("two EVENTS", p.house.ship(6), 2);
        Probe.is("used", p.house.ship(4), 10);
        p.house.tick(1);
        Probe.is("what is off goes off no more", p.house.ship(6), 2);
        p.house.load(2, 11, 2);
        p.house.tick(1);
        loadsServed(p, 0);
        Probe.is("a third EVENT", p.house.ship(6), 3);
        Probe.is("10 stay", p.house.ship(3), 10);
    }

    private static void byRank() {
        Doc.says("Part IV", "LOADS 0 .. 7 that are on are SERVED by RANK, the least first, then by number");
        for (int first = 0; first < 8; first++) {
            Probe p = switched(255);
            p.house.power(0, 10);
            for (int i = 0; i < 8; i++) {
                p.house.load(i, 10, i == first ? 8 : 9);
            }
            p.house.tick(1);
            loadsServed(p, 1 << first);
            Probe.is("seven EVENTS", p.house.ship(6), 7);
            Probe q = switched(255 & -1 << first);
            q.house.power(0, 10);
            for (int i = 0; i < 8; i++) {
                q.house.load(i, 10, 4);
            }
            q.house.tick(1);
            loadsServed(q, 1 << first);
        }
        Probe smaller = switched(0b111);
        smaller.house.power(0, 10);
        smaller.house.load(0, 8, 1);
        smaller.house.load(1, 3, 2);
        smaller.house.load(2, 2, 3);
        smaller.house.tick(1);
        loadsServed(smaller, 0b101);
        Probe again = switched(0b11);
        again.house.load(0, 6, 5);
        again.house.load(1, 6, 5);
        again.house.load(0, 6, 9);
        again.house.power(0, 6);
        again.house.tick(1);
        loadsServed(again, 0b10);
    }

    private static void atMostCapacity() {
        Doc.says("Part IV", "BATTERY becomes itself and SUN less what was used, at most CAPACITY.");
        Probe p = switched(1);
        p.house.power(100, 7);
        p.house.load(0, 7, 0);
        p.house.tick(1);
        Probe.is("as much as comes", p.house.ship(3), 100);
        p.house.load(0, 6, 0);
        p.house.tick(1);
        Probe.is("one less than comes", p.house.ship(3), 100);
        p.house.load(0, 8, 0);
        p.house.tick(1);
        Probe.is("one more than comes", p.house.ship(3), 99);
        p.house.load(0, 5, 0);
        p.house.tick(1);
        Probe.is("99 and 2", p.house.ship(3), 100);
        p.house.load(0, 107, 0);
        p.house.tick(1);
        Probe.is("all of both", p.house.ship(3), 0);
        Probe.is("used", p.house.ship(4), 107);
    }

    private static void ship() {
        Doc.says("Promise 19", "NONE for another what.");
        Twins.beyond("what", 0, 14, (house, x) -> house.ship(x));
        Doc.says("Promise 19", "Of the ship, what 0: THE CLOCK, 1: ANGLE, 2: SHADOW (1, 0), 3: BATTERY, 4: used by the latest TICK, 5: the MODE, 6: EVENTS,"
            + " 7: MENDED, 8: LOST, 9: bytes in the RECORDER, 10: PACKETS in it, 11: the number that is awaited, 12: FLAGS, 13: DUE STARTS that are left,"
            + " 14: FRAMES that wait.");
        Probe p = Probe.seen();
        p.house.orbit(100, 5, 77, 1);
        p.house.power(600, 50);
        p.house.load(0, 90, 0);
        p.house.mode(3, 1, 255);
        for (int word = 1; word < 8; word++) {
            p.house.flip(word, 6);
        }
        for (int word = 1; word < 6; word++) {
            p.house.flip(word, 7);
        }
        p.house.due(9, 0);
        p.house.due(8, 0);
        p.house.due(2, 0);
        p.sent("mode 3");
        p.program(0, "emit 2\nemit 2\nemit 2\nemit 6\nemit 0\n");
        p.sent("on 3");
        p.command("on 4");
        p.house.send(2);
        p.house.tick(2);
        int[] due = {2, 77, 1, 600 - 40 - 90, 90, 3, 2, 0, 2, 14, 2, 3, 1, 2, 2};
        // 18 bytes went down of three of 8: the third is under way; the KINDS 0 and 6, of 6 and 8 bytes, are left
        for (int what = 0; what < 15; what++) {
            Probe.is("what " + what, p.house.ship(what), due[what]);
        }
        p.house.tick(5);
        int[] later = {7, 257, 0, 270, 90, 3, 5, 2, 5, 0, 0, 3, 1, 2, 7};
        for (int what = 0; what < 15; what++) {
            Probe.is("later, what " + what, p.house.ship(what), later[what]);
        }
    }

    private static void served() {
        Doc.says("Promise 20", "NONE if there is none such.");
        Twins.beyond("LOAD", 0, 7, (house, x) -> house.served(x, 0));
        Twins.beyond("LOAD", 0, 7, (house, x) -> house.served(x, 1));
        Twins.beyond("what", 0, 1, (house, x) -> house.served(0, x));
        Doc.says("Promise 20", "Of a LOAD, what 0: on, 1: SERVED by the latest TICK (1, 0 each).");
        for (int i = 0; i < 8; i++) {
            Probe p = switched(1 << i);
            for (int j = 0; j < 8; j++) {
                Probe.is("on " + j, p.house.served(j, 0), i == j ? 1 : 0);
                Probe.is("not SERVED yet " + j, p.house.served(j, 1), 0);
            }
            p.house.tick(1);
            loadsServed(p, 1 << i);
            p.sent("off " + i);
            Probe.is("off", p.house.served(i, 0), 0);
            Probe.is("SERVED by the latest TICK", p.house.served(i, 1), 1);
            p.house.tick(1);
            Probe.is("no more", p.house.served(i, 1), 0);
        }
    }
}
