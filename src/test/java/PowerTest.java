/** Promises 11, 12, 18, 19 and 20: power, load, tick, ship, served. */
final class PowerTest {
    public static void main(String[] args) {
        settings();
        loads();
        serving();
        untold();
        ranks();
        shadow();
        ticks();
        Probe.finish("PowerTest");
    }

    private static void settings() {
        MissionHouse house = new MissionHouse();
        Probe.is("capacity -1", house.power(-1, 5), -1);
        Probe.is("capacity 1,000,001", house.power(1000001, 5), -1);
        Probe.is("sun -1", house.power(500, -1), -1);
        Probe.is("sun 10,001", house.power(500, 10001), -1);
        Probe.is("the battery is as it was", house.ship(3), 1000);
        Probe.is("the greatest", house.power(1000000, 10000), 1);
        Probe.is("the battery does not grow by it", house.ship(3), 1000);
        house.tick(1);
        Probe.is("but by the sun", house.ship(3), 11000);
        Probe.is("less capacity", house.power(300, 7), 1);
        Probe.is("takes the battery down", house.ship(3), 300);
        Probe.is("none", house.power(0, 0), 1);
        Probe.is("none", house.ship(3), 0);
        house.power(100, 0);
        Probe.is("what was lost is lost", house.ship(3), 0);
    }

    private static void loads() {
        MissionHouse house = new MissionHouse();
        Probe.is("load -1", house.load(-1, 1, 1), -1);
        Probe.is("load 8", house.load(8, 1, 1), -1);
        Probe.is("units -1", house.load(1, -1, 1), -1);
        Probe.is("units 1001", house.load(1, 1001, 1), -1);
        Probe.is("rank -1", house.load(1, 1, -1), -1);
        Probe.is("rank 10", house.load(1, 1, 10), -1);
        Probe.is("the greatest", house.load(7, 1000, 9), 1);
        Probe.is("the least", house.load(0, 0, 0), 1);
        Probe.is("not on by it", house.served(7, 0), 0);
        Probe.is("served load -1", house.served(-1, 0), -1);
        Probe.is("served load 8", house.served(8, 1), -1);
        Probe.is("served what -1", house.served(0, -1), -1);
        Probe.is("served what 2", house.served(0, 2), -1);
    }

    /** Switches LOADS on by MODE 1 and program 0 in the first tick. */
    private static Probe switched(int row) {
        Probe p = new Probe();
        p.house.mode(1, row, 255);
        p.program(0, "mode 1\n");
        p.house.due(1, 0);
        p.house.tick(1);
        return p;
    }

    private static void serving() {
        Probe p = switched(1);
        p.house.power(50, 10);
        p.house.load(0, 30, 0);
        Probe.is("on", p.house.served(0, 0), 1);
        Probe.is("not served yet", p.house.served(0, 1), 0);
        Probe.is("used nothing yet", p.house.ship(4), 0);
        p.house.tick(1);
        Probe.is("served", p.house.served(0, 1), 1);
        Probe.is("used", p.house.ship(4), 30);
        Probe.is("50 + 10 - 30", p.house.ship(3), 30);
        p.house.tick(1);
        Probe.is("30 + 10 - 30", p.house.ship(3), 10);
        Probe.is("no event yet", p.house.ship(6), 0);
        p.house.load(0, 20, 0);
        p.house.tick(1);
        Probe.is("just enough", p.house.served(0, 1), 1);
        Probe.is("all is used", p.house.ship(3), 0);
        p.house.load(0, 11, 0);
        p.house.tick(1);
        Probe.is("not enough: off", p.house.served(0, 0), 0);
        Probe.is("not served", p.house.served(0, 1), 0);
        Probe.is("an event", p.house.ship(6), 1);
        Probe.is("used nothing", p.house.ship(4), 0);
        Probe.is("the sun stays in the battery", p.house.ship(3), 10);
        p.house.tick(9);
        Probe.is("at most capacity", p.house.ship(3), 50);
        Probe.is("no further event", p.house.ship(6), 1);
    }

    /** As LOADS are before they are told anything: 0 units, and all served. */
    private static void untold() {
        Probe p = switched(255);
        p.house.tick(1);
        for (int i = 0; i < 8; i++) {
            Probe.is("served " + i, p.house.served(i, 1), 1);
        }
        Probe.is("used", p.house.ship(4), 0);
        p.house.load(4, 150, 0);
        p.house.tick(1);
        Probe.is("SUN is 100 at first", p.house.ship(3), 950);
    }

    private static void ranks() {
        Probe p = switched(255);
        p.house.power(0, 100);
        int[] units = {40, 40, 30, 40, 20, 0, 1, 1};
        int[] rank = {5, 3, 9, 3, 9, 9, 8, 0};
        for (int i = 0; i < 8; i++) {
            p.house.load(i, units[i], rank[i]);
        }
        p.house.tick(1);
        // in order: 7 (1), 1 (40), 3 (40), 0 (40: off), 6 (1), 2 (30: off), 4 (20: off, 18 are left), 5 (0)
        int[] served = {0, 1, 0, 1, 0, 1, 1, 1};
        for (int i = 0; i < 8; i++) {
            Probe.is("served " + i, p.house.served(i, 1), served[i]);
            Probe.is("on " + i, p.house.served(i, 0), served[i]);
        }
        Probe.is("used", p.house.ship(4), 82);
        Probe.is("events", p.house.ship(6), 3);
        p.house.load(3, 60, 0);
        p.house.tick(1);
        Probe.is("a new rank goes ahead", p.house.served(3, 1), 1);
        Probe.is("and leaves too little", p.house.served(1, 1), 0);
    }

    private static void shadow() {
        Probe p = switched(2);
        p.house.power(100, 10);
        p.house.load(1, 4, 0);
        p.house.orbit(3600, 0, 3, 2);
        int[] battery = {96 + 4, 96, 92, 98, 100};
        p.house.tick(1);
        Probe.is("2, in the sun", p.house.ship(3), battery[0]);
        p.house.tick(1);
        Probe.is("3, in the shadow", p.house.ship(3), battery[1]);
        p.house.tick(1);
        Probe.is("4, in the shadow", p.house.ship(3), battery[2]);
        p.house.tick(1);
        Probe.is("5, in the sun", p.house.ship(3), battery[3]);
        p.house.tick(1);
        Probe.is("6, full", p.house.ship(3), battery[4]);
    }

    private static void ticks() {
        MissionHouse house = new MissionHouse();
        Probe.is("none", house.tick(0), 0);
        Probe.is("-1", house.tick(-1), -1);
        Probe.is("501", house.tick(501), -1);
        Probe.is("500", house.tick(500), 500);
        Probe.is("clock", house.ship(0), 500);
        Probe.is("angle: 3600 * 500 / 5400", house.ship(1), 333);
        Probe.is("what -1", house.ship(-1), -1);
        Probe.is("what 15", house.ship(15), -1);
        Probe.is("greatest", house.ship(Integer.MAX_VALUE), -1);
    }
}
