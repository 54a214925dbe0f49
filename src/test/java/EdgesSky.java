/** Part III, and promises 8 to 10: orbit, station, sight. */
final class EdgesSky {
    static void all() {
        orbits();
        stations();
        atFirst();
        angles();
        turns();
        shadows();
        arcs();
        sights();
        everySecond();
        within();
    }

    private static void orbits() {
        Doc.says("Part III", "A turn has 3,600 DEGREES, 0 .. 3,599, and takes PERIOD seconds (60 .. 20,000).");
        Twins.range("PERIOD", 60, 20000, 1, (house, x) -> house.orbit(x, 0, 0, 0));
        Doc.says("Promise 8", "PERIOD, PHASE, SHADE and WIDTH (0 .. 3,600): 1; NONE, and nothing, if one can't be.");
        Twins.range("PHASE", 0, 3599, 1, (house, x) -> house.orbit(60, x, 1, 1));
        Twins.range("SHADE", 0, 3599, 1, (house, x) -> house.orbit(60, 1, x, 1));
        Twins.range("WIDTH", 0, 3600, 1, (house, x) -> house.orbit(60, 1, 1, x));
        Twins.refused("PERIOD 0", Twins::busy, -1, house -> house.orbit(0, 1, 1, 1));
        MissionHouse house = new MissionHouse();
        house.orbit(100, 7, 7, 1);
        house.orbit(100, 8, 7, 3601);
        Probe.is("the angle is as it was", house.ship(1), 7);
        Probe.is("so is the shadow", house.ship(2), 1);
    }

    private static void stations() {
        Doc.says("Promise 9", "A station's FROM, width (0 .. 3,600) and DRIFT (0 .. 3,599): 1; NONE if one can't be.");
        Twins.range("station", 0, 3, 1, (house, x) -> house.station(x, 1, 1, 1));
        for (int station = 0; station < 4; station++) {
            int s = station;
            Twins.range("FROM", 0, 3599, 1, (house, x) -> house.station(s, x, 3600, 1));
            Twins.range("width", 0, 3600, 1, (house, x) -> house.station(s, 1, x, 1));
            Twins.range("DRIFT", 0, 3599, 1, (house, x) -> house.station(s, 1, 3600, x));
        }
    }

    private static void atFirst() {
        Doc.says("Part III", "At first: PERIOD 5,400, PHASE 0, SHADE 0, WIDTH 0; widths 0.");
        MissionHouse house = new MissionHouse();
        Probe.is("PHASE 0", house.ship(1), 0);
        Probe.is("WIDTH 0", house.ship(2), 0);
        for (int i = 0; i < 4; i++) {
            Probe.is("sees never", house.sight(i, false), -1);
            Probe.is("does not see", house.sight(i, true), 0);
        }
        for (int i = 0; i < 10; i++) {
            house.tick(500);
        }
        house.tick(399);
        Probe.is("5399 of 5400", house.ship(1), 3599);
        house.tick(1);
        Probe.is("PERIOD 5,400", house.ship(1), 0);
        MissionHouse from = new MissionHouse();
        from.orbit(60, 0, 0, 0);
        from.station(0, 0, 1, 0);
        Probe.is("width 1 from 0 on", from.sight(0, false), 0);
    }

    private static void angles() {
        Doc.says("Part III", "At CLOCK t the ANGLE is PHASE + 3600 * (t mod PERIOD) / PERIOD (down), mod 3,600");
        for (int period : new int[] {60, 61, 99, 100, 3599, 3600, 3601, 7000, 19999, 20000}) {
            for (int phase : new int[] {0, 1, 1800, 3599}) {
                MissionHouse house = new MissionHouse();
                house.orbit(period, phase, 0, 0);
                for (int t : new int[] {0, 1, 2, 59, 60, 61, period - 1, period, period + 1, 2 * period - 1, 2 * period}) {
                    goTo(house, t);
                    int clock = house.ship(0);
                    long due = (phase + 3600L * (clock % period) / period) % 3600;
                    Probe.is("period " + period + " phase " + phase + " at " + clock, house.ship(1), due);
                }
            }
        }
        MissionHouse house = new MissionHouse();
        house.orbit(7000, 0, 0, 0);
        house.tick(1);
        Probe.is("0.51 is 0", house.ship(1), 0);
        house.tick(1);
        Probe.is("1.03 is 1", house.ship(1), 1);
        house.orbit(3600, 3598, 0, 0);
        Probe.is("3598 and 2", house.ship(1), 0);
        house.orbit(3600, 3597, 0, 0);
        Probe.is("3597 and 2", house.ship(1), 3599);
    }

    private static void goTo(MissionHouse house, int clock) {
        for (int left = clock - house.ship(0); left > 0; left -= 500) {
            house.tick(Math.min(500, left));
        }
    }

    private static void turns() {
        Doc.says("Part III", "TURN is t / PERIOD (down).");
        Probe p = Probe.begun("until turn = 1\nset v1 1\nuntil turn > 1\nset v2 1\n");
        p.house.orbit(60, 3599, 0, 0);
        p.house.tick(59);
        Probe.is("59 of 60", p.house.word(1, 1), 0);
        p.house.tick(1);
        Probe.is("60 of 60", p.house.word(1, 1), 1);
        p.house.tick(59);
        Probe.is("119", p.house.word(2, 1), 0);
        p.house.tick(1);
        Probe.is("120", p.house.word(2, 1), 1);
    }

    private static void shadow(int angle, int shade, int width, int due) {
        MissionHouse house = new MissionHouse();
        house.orbit(60, angle, shade, width);
        Probe.is("angle " + angle + " shade " + shade + " width " + width, house.ship(2), due);
        Probe p = new Probe();
        p.house.orbit(60, angle, 0, 0);
        p.house.station(2, shade, width, 0);
        Probe.is("seen at angle " + angle + " from " + shade + " width " + width, p.house.sight(2, false) == 0 ? 1 : 0, due);
        Probe.is("not seen at angle " + angle, p.house.sight(2, true) == 0 ? 1 : 0, 1 - due);
        Probe.is("a command goes up", p.sent("on 1"), due == 1 ? 1 : -1);
    }

    private static void shadows() {
        Doc.says("Part III", "It is in SHADOW if (ANGLE - SHADE) mod 3,600 is less than WIDTH.");
        int[][] cases = {{0, 0, 0, 0}, {0, 0, 1, 1}, {1, 0, 1, 0}, {3599, 0, 1, 0}, {3599, 0, 3599, 0}, {3598, 0, 3599, 1}, {3599, 0, 3600, 1},
            {0, 3599, 1, 0}, {0, 3599, 2, 1}, {1, 3599, 2, 0}, {3599, 3599, 1, 1}, {3598, 3599, 3599, 0}, {3598, 3599, 3600, 1}, {0, 1, 3599, 0},
            {0, 1, 3600, 1}, {100, 100, 0, 0}, {100, 100, 1, 1}, {99, 100, 1, 0}, {149, 100, 50, 1}, {150, 100, 50, 0}};
        for (int[] c : cases) {
            shadow(c[0], c[1], c[2], c[3]);
        }
    }

    private static void arcs() {
        Doc.says("Part III", "STATIONS 0 .. 3: at TURN n a station's arc begins at FROM + n * DRIFT, mod 3,600, and has a width;"
            + " it SEES the ship if (ANGLE - that) mod 3,600 is less than the width.");
        for (int station = 0; station < 4; station++) {
            MissionHouse house = new MissionHouse();
            house.orbit(60, 0, 0, 0);
            house.tick(60);
            house.station(station, 0, 1, 0);
            Probe.is("no drift", house.sight(station, false), 60);
            house.station(station, 1, 1, 3599);
            Probe.is("1 and 3599 is 0", house.sight(station, false), 60);
            house.station(station, 1, 1, 3598);
            Probe.is("1 and 3598 is 3599; 1 less 2 a turn comes never to a sixtieth", house.sight(station, false), -1);
            house.station(station, 3599, 1, 1);
            Probe.is("3599 and 1 is 0", house.sight(station, false), 60);
            house.station(station, 3599, 1, 2);
            Probe.is("3599 and 2 is 1", house.sight(station, true), 60);
            house.tick(60);
            house.station(station, 3598, 1, 1);
            Probe.is("turn 2", house.sight(station, false), 120);
            house.station(station, 2, 1, 3599);
            Probe.is("turn 2: 2 and 7198", house.sight(station, false), 120);
            for (int i = 0; i < 24; i++) {
                house.tick(500);
            }
            house.station(station, 202, 1, 3599);
            Probe.is("turn 202", house.sight(station, false), 12120);
        }
        MissionHouse others = new MissionHouse();
        others.orbit(60, 0, 0, 0);
        others.station(1, 0, 3600, 0);
        Probe.is("station 0 does not see it", others.sight(0, false), -1);
        Probe.is("station 2 does not see it", others.sight(2, false), -1);
        Probe.is("station 1 sees it", others.sight(1, false), 0);
    }

    private static void sights() {
        Doc.says("Promise 10", "The first second at or behind THE CLOCK, within 20,000, at which a station SEES the ship, or, behind, does not;"
            + " NONE if there is none.");
        Twins.beyond("station", 0, 3, (house, x) -> house.sight(x, false));
        Twins.beyond("station", 0, 3, (house, x) -> house.sight(x, true));
        MissionHouse house = new MissionHouse();
        house.orbit(3600, 0, 0, 0);
        house.station(0, 5, 10, 0);
        Probe.is("ahead of the arc", house.sight(0, false), 5);
        Probe.is("not seen at THE CLOCK", house.sight(0, true), 0);
        house.tick(5);
        Probe.is("seen at THE CLOCK", house.sight(0, false), 5);
        Probe.is("seen no more", house.sight(0, true), 15);
        house.tick(9);
        Probe.is("the last second of it", house.sight(0, false), 14);
        Probe.is("seen no more", house.sight(0, true), 15);
        house.tick(1);
        Probe.is("in the next turn", house.sight(0, false), 3605);
        Probe.is("not seen at THE CLOCK", house.sight(0, true), 15);
        house.station(1, 0, 3600, 77);
        Probe.is("always seen", house.sight(1, false), 15);
        Probe.is("never unseen", house.sight(1, true), -1);
        house.station(1, 0, 0, 77);
        Probe.is("never seen", house.sight(1, false), -1);
        Probe.is("always unseen", house.sight(1, true), 15);
    }

    /** Each answer looked for second by second, as the document tells it. */
    private static void everySecond() {
        for (int period : new int[] {60, 61, 77, 101, 999, 3599, 3600, 3601, 5400, 7001, 19999, 20000}) {
            for (int i = 0; i < 40; i++) {
                int from = (i * 997 + 3590) % 3600;
                int width = i % 5 == 0 ? i / 5 : i % 5 == 1 ? 3600 - i / 5 : i * 90;
                int drift = i % 3 == 0 ? 0 : i % 3 == 1 ? 3599 - i : i * 71;
                int clock = i % 4 * 333;
                MissionHouse house = new MissionHouse();
                house.orbit(period, i * 91, 0, 0);
                house.station(i % 4, from, width, drift);
                goTo(house, clock);
                for (boolean behind : new boolean[] {false, true}) {
                    int due = -1;
                    for (int t = clock + 20000; t >= clock; t--) {
                        long angle = i * 91 + 3600L * (t % period) / period;
                        boolean sees = Math.floorMod(angle - from - (long) (t / period) * drift, 3600L) < width;
                        due = sees != behind ? t : due;
                    }
                    Probe.is("period " + period + " from " + from + " width " + width + " drift " + drift + " at " + clock, house.sight(i % 4, behind), due);
                }
            }
        }
    }

    /** 5.55 seconds a degree: degree d begins at the first second that is not less than 50 d / 9. */
    private static void within() {
        Doc.says("CORNERS", "THE CLOCK and 20,000 is looked at, too.");
        for (int drift = 9; drift <= 36; drift += 9) {
            MissionHouse house = new MissionHouse();
            house.orbit(20000, 0, 0, 0);
            house.station(3, 0, 1, drift);
            int second = 20000 + drift / 9 * 50;
            house.tick(drift / 9 * 50 - 1);
            Probe.is("THE CLOCK and 20,001", house.sight(3, false), -1);
            house.tick(1);
            Probe.is("THE CLOCK and 20,000", house.sight(3, false), second);
            house.tick(1);
            Probe.is("THE CLOCK and 19,999", house.sight(3, false), second);
        }
        MissionHouse unseen = new MissionHouse();
        unseen.orbit(20000, 0, 0, 0);
        unseen.station(3, 3599, 3599, 3599);
        Probe.is("3598 alone is not seen, in turn 0 from 19,989 on", unseen.sight(3, true), 19989);
        for (int i = 0; i < 40; i++) {
            unseen.tick(500);
        }
        unseen.station(3, 3599, 3599, 0);
        Probe.is("3598 again", unseen.sight(3, true), 39989);
        unseen.station(3, 0, 3599, 2);
        unseen.tick(11);
        Probe.is("turn 1 begins at 2: degree 1 is at 20,006 .. 20,011", unseen.sight(3, true), 20011);
        unseen.tick(1);
        Probe.is("turn 2 begins at 4, its degree 3 at 40,017", unseen.sight(3, true), -1);
        unseen.tick(4);
        Probe.is("THE CLOCK and 20,001", unseen.sight(3, true), -1);
        unseen.tick(1);
        Probe.is("THE CLOCK and 20,000", unseen.sight(3, true), 40017);
    }
}
