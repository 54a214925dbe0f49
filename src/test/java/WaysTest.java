/** Promises 34 and 35: bar, way. */
final class WaysTest {
    public static void main(String[] args) {
        bars();
        edges();
        ways();
        walls();
        labyrinth();
        Probe.finish("WaysTest");
    }

    private static void bars() {
        MissionHouse house = new MissionHouse();
        Probe.is("column -1", house.bar(-1, 0, true), -1);
        Probe.is("column 24", house.bar(24, 0, true), -1);
        Probe.is("row -1", house.bar(0, -1, true), -1);
        Probe.is("row 12", house.bar(0, 12, true), -1);
        Probe.is("not barred", house.bar(23, 11, true), 0);
        Probe.is("barred", house.bar(23, 11, true), 1);
        Probe.is("barred", house.bar(23, 11, false), 1);
        Probe.is("not barred", house.bar(23, 11, false), 0);
        Probe.is("another field", house.bar(11, 10, false), 0);
    }

    private static void edges() {
        MissionHouse house = new MissionHouse();
        Probe.is("column -1", house.way(-1, 0, 0, 0), -1);
        Probe.is("column 24", house.way(24, 0, 0, 0), -1);
        Probe.is("row -1", house.way(0, -1, 0, 0), -1);
        Probe.is("row 12", house.way(0, 12, 0, 0), -1);
        Probe.is("to column -1", house.way(0, 0, -1, 0), -1);
        Probe.is("to column 24", house.way(0, 0, 24, 0), -1);
        Probe.is("to row -1", house.way(0, 0, 0, -1), -1);
        Probe.is("to row 12", house.way(0, 0, 0, 12), -1);
        house.bar(5, 5, true);
        Probe.is("from a barred one", house.way(5, 5, 0, 0), -1);
        Probe.is("to a barred one", house.way(0, 0, 5, 5), -1);
        Probe.is("from a barred one to itself", house.way(5, 5, 5, 5), -1);
        Probe.is("from one to itself", house.way(4, 5, 4, 5), 0);
    }

    private static void ways() {
        Probe p = new Probe();
        p.way(3, 3, 3, 2, "u");
        p.way(3, 3, 2, 3, "l");
        p.way(3, 3, 4, 3, "r");
        p.way(3, 3, 3, 4, "d");
        p.way(3, 3, 1, 1, "uull");
        p.way(3, 3, 5, 1, "uurr");
        p.way(3, 3, 1, 5, "lldd");
        p.way(3, 3, 5, 5, "rrdd");
        p.way(23, 0, 0, 0, "r");
        p.way(0, 11, 23, 11, "l");
        p.way(0, 0, 12, 0, "l".repeat(12));
        p.way(0, 0, 11, 0, "r".repeat(11));
        p.way(0, 0, 13, 0, "l".repeat(11));
        p.way(0, 0, 0, 11, "d".repeat(11));
        p.house.way(0, 0, 24, 0);
        Probe.is("out stays if there is none", p.out(), "d".repeat(11));
    }

    private static void walls() {
        Probe p = new Probe();
        for (int row = 0; row < 12; row++) {
            p.house.bar(6, row, true);
        }
        p.way(5, 0, 7, 0, "l".repeat(22));
        p.house.bar(6, 11, false);
        p.way(5, 10, 7, 10, "drru");
        for (int row = 0; row < 12; row++) {
            p.house.bar(18, row, true);
        }
        p.way(5, 0, 7, 0, "d".repeat(11) + "rr" + "u".repeat(11));
        p.way(7, 0, 5, 0, "d".repeat(11) + "ll" + "u".repeat(11));
        p.house.bar(6, 11, true);
        Probe.is("no way", p.house.way(5, 0, 7, 0), -1);
        Probe up = new Probe();
        up.house.bar(4, 4, true);
        up.way(3, 4, 5, 4, "urrd");
        up.house.bar(4, 3, true);
        up.way(3, 4, 5, 4, "drru");
        up.house.bar(4, 5, true);
        up.way(3, 4, 5, 4, "uurrdd");
    }

    /** A comb: the longest of the fewest turns. */
    private static void labyrinth() {
        Probe p = new Probe();
        for (int column = 1; column < 24; column += 2) {
            for (int row = 0; row < 12; row++) {
                boolean open = row == (column % 4 == 1 ? 11 : 0);
                p.house.bar(column, row, !open);
            }
        }
        p.house.bar(23, 0, true);
        StringBuilder due = new StringBuilder();
        for (int column = 0; column < 22; column += 2) {
            due.append((column % 4 == 0 ? "d" : "u").repeat(11)).append("rr");
        }
        due.append("u".repeat(11));
        p.way(0, 0, 22, 0, due.toString());
    }
}
