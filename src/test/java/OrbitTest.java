/** Promises 8 to 10: orbit, station, sight. */
final class OrbitTest {
    public static void main(String[] args) {
        orbits();
        shadows();
        stations();
        sights();
        Probe.finish("OrbitTest");
    }

    private static void orbits() {
        MissionHouse house = new MissionHouse();
        Probe.is("period 60", house.orbit(60, 0, 0, 0), 1);
        Probe.is("period 20000", house.orbit(20000, 3599, 3599, 3600), 1);
        house.orbit(100, 7, 0, 0);
        Probe.is("period 59", house.orbit(59, 8, 0, 0), -1);
        Probe.is("period 0", house.orbit(0, 8, 0, 0), -1);
        Probe.is("period 20001", house.orbit(20001, 8, 0, 0), -1);
        Probe.is("phase -1", house.orbit(100, -1, 0, 0), -1);
        Probe.is("phase 3600", house.orbit(100, 3600, 0, 0), -1);
        Probe.is("shade -1", house.orbit(100, 8, -1, 0), -1);
        Probe.is("shade 3600", house.orbit(100, 8, 3600, 0), -1);
        Probe.is("width -1", house.orbit(100, 8, 0, -1), -1);
        Probe.is("width 3601", house.orbit(100, 8, 0, 3601), -1);
        Probe.is("nothing was changed", house.ship(1), 7);
        house.orbit(70, 3590, 0, 0);
        house.tick(1);
        Probe.is("the angle goes round: 3590 + 51", house.ship(1), 41);
        house.tick(69);
        Probe.is("a whole turn", house.ship(1), 3590);
    }

    private static void shadows() {
        MissionHouse house = new MissionHouse();
        house.orbit(3600, 0, 3599, 2);
        Probe.is("in shadow at 0", house.ship(2), 1);
        house.tick(1);
        Probe.is("out of it at 1", house.ship(2), 0);
        house.orbit(3600, 3598, 3599, 2);
        Probe.is("at 3599", house.ship(2), 1);
        house.orbit(3600, 3597, 3599, 2);
        Probe.is("at 3598", house.ship(2), 0);
        house.orbit(3600, 0, 100, 3600);
        Probe.is("all shadow", house.ship(2), 1);
        house.orbit(3600, 0, 1, 0);
        Probe.is("no shadow", house.ship(2), 0);
    }

    private static void stations() {
        MissionHouse house = new MissionHouse();
        Probe.is("station -1", house.station(-1, 0, 1, 0), -1);
        Probe.is("station 4", house.station(4, 0, 1, 0), -1);
        Probe.is("from -1", house.station(0, -1, 1, 0), -1);
        Probe.is("from 3600", house.station(0, 3600, 1, 0), -1);
        Probe.is("width -1", house.station(0, 0, -1, 0), -1);
        Probe.is("width 3601", house.station(0, 0, 3601, 0), -1);
        Probe.is("drift -1", house.station(0, 0, 1, -1), -1);
        Probe.is("drift 3600", house.station(0, 0, 1, 3600), -1);
        Probe.is("nothing was changed", house.sight(0, false), -1);
        Probe.is("the greatest", house.station(3, 3599, 3600, 3599), 1);
        Probe.is("sees at once", house.sight(3, false), 0);
        Probe.is("sees always", house.sight(3, true), -1);
        Probe.is("width 0", house.station(3, 0, 0, 0), 1);
        Probe.is("sees never", house.sight(3, false), -1);
    }

    private static void sights() {
        MissionHouse house = new MissionHouse();
        Probe.is("station -1", house.sight(-1, false), -1);
        Probe.is("station 4", house.sight(4, true), -1);
        house.orbit(3600, 0, 0, 0);
        house.station(1, 100, 10, 50);
        Probe.is("not seen at once", house.sight(1, true), 0);
        Probe.is("first seen", house.sight(1, false), 100);
        house.tick(100);
        Probe.is("seen now", house.sight(1, false), 100);
        Probe.is("seen no more", house.sight(1, true), 110);
        house.tick(10);
        Probe.is("in the next turn, by the drift", house.sight(1, false), 3750);
        house.station(1, 3590, 20, 0);
        Probe.is("over the end of the turn", house.sight(1, false), 3590);
        house.orbit(20000, 0, 0, 0);
        house.station(2, 19, 1, 0);
        Probe.is("110 is at 19 of 3600", house.ship(1), 19);
        Probe.is("seen", house.sight(2, false), 110);
        house.station(2, 18, 1, 0);
        Probe.is("angle 18 is over, and comes again in the next turn", house.sight(2, false), 20100);
        reach();
        fast();
    }

    private static void reach() {
        MissionHouse house = new MissionHouse();
        house.orbit(20000, 1, 0, 0);
        house.station(0, 0, 1, 0);
        Probe.is("3599 degrees on, at 19,994.4", house.sight(0, false), 19995);
        house.orbit(20000, 0, 0, 0);
        house.station(0, 3599, 1, 1);
        Probe.is("at the end of the turn", house.sight(0, false), 19995);
        house.orbit(10000, 1, 0, 0);
        house.station(0, 2, 1, 3599);
        Probe.is("1 degree on", house.sight(0, false), 3);
        house.tick(6);
        Probe.is("in turn 1 the arc begins at 1, where the turn does", house.sight(0, false), 10000);
        house.orbit(20000, 0, 0, 0);
        house.station(0, 1, 1, 3599);
        Probe.is("angle 1 is at 6", house.sight(0, false), 6);
        house.tick(6);
        Probe.is("12 now", house.ship(0), 12);
        Probe.is("turn 1, arc at 0, at 20,000", house.sight(0, false), 20000);
        edge();
    }

    private static void edge() {
        MissionHouse house = new MissionHouse();
        house.orbit(20000, 0, 0, 0);
        house.station(0, 1, 1, 0);
        house.tick(12);
        Probe.is("20,006 at 12", house.sight(0, false), 20006);
        MissionHouse late = new MissionHouse();
        late.orbit(20000, 5, 0, 0);
        late.station(0, 5, 1, 5);
        late.tick(6);
        Probe.is("angle 5 is over at 6", late.ship(1), 6);
        Probe.is("in turn 1 the arc is at 10, behind THE CLOCK and 20,000", late.sight(0, false), -1);
        late.station(0, 5, 1, 1);
        Probe.is("just at THE CLOCK and 20,000", late.sight(0, false), 20006);
        MissionHouse beyond = new MissionHouse();
        beyond.orbit(20000, 0, 0, 0);
        beyond.station(0, 0, 1, 2);
        beyond.tick(11);
        Probe.is("angle 2 of turn 1 is at 20,012: THE CLOCK and 20,001", beyond.sight(0, false), -1);
        beyond.tick(1);
        Probe.is("THE CLOCK and 20,000", beyond.sight(0, false), 20012);
        late.station(0, 6, 1, 1);
        Probe.is("seen now", late.sight(0, false), 6);
    }

    /** A short turn leaps over narrow arcs. */
    private static void fast() {
        MissionHouse house = new MissionHouse();
        house.orbit(60, 0, 0, 0);
        house.station(0, 1, 59, 0);
        Probe.is("60 degrees a second leap over it", house.sight(0, false), -1);
        house.station(0, 1, 60, 0);
        Probe.is("not over 60 degrees", house.sight(0, false), 1);
        house.station(0, 1, 1, 1);
        Probe.is("after 59 turns the drift brings it there", house.sight(0, false), 59 * 60 + 1);
    }
}
