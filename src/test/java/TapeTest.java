/** Promises 1 to 4: a new object, feed, end, out. */
final class TapeTest {
    public static void main(String[] args) {
        newObject();
        feeding();
        cutting();
        theOut();
        Probe.finish("TapeTest");
    }

    private static void newObject() {
        MissionHouse house = new MissionHouse();
        int[] ship = {0, 0, 0, 1000, 0, 0, 0, 0, 0, 0, 0, 0, 0, 0, 0};
        for (int what = 0; what < ship.length; what++) {
            Probe.is("new ship(" + what + ")", house.ship(what), ship[what]);
        }
        for (int what = 0; what < 6; what++) {
            Probe.is("new ground(" + what + ")", house.ground(what), 0);
        }
        for (int i = 0; i < 8; i++) {
            Probe.is("new load on", house.served(i, 0), 0);
            Probe.is("new load served", house.served(i, 1), 0);
            Probe.is("new program lines", house.runs(i, 0), 0);
            Probe.is("new program runs", house.runs(i, 1), 0);
            Probe.is("new program next", house.runs(i, 2), -1);
            Probe.is("new program waits", house.runs(i, 3), 0);
        }
        for (int i = 0; i < 64; i++) {
            Probe.is("new word", house.word(i, 0), 0);
        }
        for (int i = 0; i < 4; i++) {
            Probe.is("new station sees", house.sight(i, false), -1);
        }
        Probe.is("new gap", house.gap(3), 10);
        Probe.is("new best", house.best(100), 0);
        Probe.is("new best", house.best(101), 0);
        Probe.is("new passes", house.clear(), 0);
        Probe.is("new field", house.bar(0, 0, false), 0);
        Probe.is("no frame", house.receive(), -1);
        Probe.is("no frame to lose", house.lose(), -1);
        Probe.is("the battery stays full in the sun", house.tick(1), 1);
        Probe.is("battery", house.ship(3), 1000);
        Probe.is("period 5400", house.tick(2), 3);
        Probe.is("angle at 3 of 5400", house.ship(1), 2);
    }

    private static void feeding() {
        MissionHouse house = new MissionHouse();
        for (int i = 1; i <= 80; i++) {
            Probe.is("feed", house.feed(1, 2, 3, 4, 5), 20 * i);
        }
        Probe.is("feed beyond 1600", house.feed(1, 2, 3, 4, 5), -4);
        Probe.is("end at 1600", house.end(1600), 1600);
        Probe.is("end", house.end(1581), 1581);
        Probe.is("feed beyond 1600", house.feed(1, 2, 3, 4, 5), -4);
        Probe.is("end", house.end(1580), 1580);
        Probe.is("feed to 1600", house.feed(1, 2, 3, 4, 5), 1600);

        Probe order = new Probe();
        Probe.is("the highest byte comes first", order.date("2000-01-01T00:00:07"), 7);
        MissionHouse high = new MissionHouse();
        high.feed(0xFF303030, 0, 0, 0, 0);
        Probe.is("a byte above 127", high.date(), -1000);
        high.feed(0x323030FF, 0, 0, 0, 0);
        Probe.is("a byte above 127", high.date(), -1003);
    }

    private static void cutting() {
        MissionHouse house = new MissionHouse();
        Probe.is("end of nothing", house.end(0), 0);
        Probe.is("end beyond", house.end(1), -1);
        house.feed(0, 0, 0, 0, 0);
        Probe.is("end below 0", house.end(-1), -1);
        Probe.is("end beyond", house.end(21), -1);
        Probe.is("end of all", house.end(20), 20);
        Probe.is("end", house.end(7), 7);
        Probe.is("end beyond what is left", house.end(8), -1);
        Probe.is("feed behind it", house.feed(0, 0, 0, 0, 0), 27);
        Probe.is("least int", house.end(Integer.MIN_VALUE), -1);
        Probe.is("greatest int", house.end(Integer.MAX_VALUE), -1);
    }

    private static void theOut() {
        Probe probe = new Probe();
        Probe.is("out at first", probe.house.out(0), -1);
        probe.house.written(0);
        Probe.is("out", probe.out(), "2000-01-01T00:00:00");
        Probe.is("out below", probe.house.out(-1), -1);
        Probe.is("out behind", probe.house.out(19), -1);
        Probe.is("out far behind", probe.house.out(Integer.MAX_VALUE), -1);
        Probe.is("least int", probe.house.out(Integer.MIN_VALUE), -1);
        probe.house.written(-1);
        Probe.is("out stays if nothing is written", probe.out(), "2000-01-01T00:00:00");
        probe.house.way(0, 0, 1, 1);
        Probe.is("the latest alone", probe.out(), "rd");
        probe.house.way(0, 0, 0, 0);
        Probe.is("nothing was written latest", probe.out(), "");
    }
}
