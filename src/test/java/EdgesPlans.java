/** Parts IX and X, and promises 30 to 35: pass, gap, clear, best, bar, way. */
final class EdgesPlans {
    static void all() {
        passes();
        passesFull();
        gaps();
        choices();
        bests();
        cleared();
        whats();
        bars();
        turns();
        around();
        wayRefused();
        ways();
        firstOfThem();
    }

    private static void passes() {
        Doc.says("Part IX", "PASSES: at most 12, each a station 0 .. 3, FROM and TO (0 .. 99,999, TO above FROM), a WORTH 1 .. 99.");
        Twins.range("station", 0, 3, 0, (house, x) -> house.pass(x, 5, 6, 7));
        Twins.range("WORTH", 1, 99, 0, (house, x) -> house.pass(0, 5, 6, x));
        Twins.range("FROM", 0, 99998, 0, (house, x) -> house.pass(0, x, 99999, 7));
        Twins.range("TO", 1, 99999, 0, (house, x) -> house.pass(0, 0, x, 7));
        Doc.says("Promise 30", "NONE if one of these can't be");
        Twins.refused("TO as FROM", Twins::busy, -1, house -> house.pass(0, 50, 50, 7));
        Twins.refused("TO ahead of FROM", Twins::busy, -1, house -> house.pass(0, 50, 49, 7));
        Twins.refused("FROM below 0", Twins::busy, -1, house -> house.pass(0, -1, 49, 7));
        Twins.refused("TO 100,000", Twins::busy, -1, house -> house.pass(0, 99999, 100000, 7));
        Twins.refused("far beyond", Twins::busy, -1, house -> house.pass(0, Integer.MIN_VALUE, Integer.MAX_VALUE, 7));
        Probe.is("just above", new MissionHouse().pass(0, 50, 51, 7), 0);
        Doc.says("Promise 30", "A PASS comes: its number.");
        MissionHouse house = new MissionHouse();
        for (int i = 0; i < 12; i++) {
            Probe.is("number", house.pass(i % 4, i, i + 1, 5), i);
        }
    }

    private static void passesFull() {
        Doc.says("Promise 30", "FULL.");
        MissionHouse house = new MissionHouse();
        for (int i = 0; i < 12; i++) {
            house.pass(0, 10 * i, 10 * i + 1, 1);
        }
        Probe.is("a thirteenth", house.pass(0, 500, 501, 99), -4);
        Probe.is("the sum is as it was", house.best(100), 12);
        Probe.is("one that can't be: NONE is told first", house.pass(4, 500, 501, 99), -1);
        Probe.is("all", house.clear(), 12);
        Probe.is("room again", house.pass(0, 500, 501, 99), 0);
        Twins.refused("a thirteenth", Twins::full, -4, h -> h.pass(0, 90000, 90001, 99));
        Twins.refused("one that can't be", Twins::full, -1, h -> h.pass(0, 90000, 90000, 99));
    }

    private static void gaps() {
        Doc.says("Promise 31", "GAP is g: what it was; NONE if it can't be.");
        Probe.is("0", new MissionHouse().gap(0), 10);
        Probe.is("999", new MissionHouse().gap(999), 10);
        Twins.beyond("GAP", 0, 999, (house, x) -> house.gap(x));
        MissionHouse house = new MissionHouse();
        Probe.is("10 at first", house.gap(999), 10);
        Probe.is("refused", house.gap(1000), -1);
        Probe.is("refused", house.gap(-1), -1);
        Probe.is("what it was", house.gap(0), 999);
        Probe.is("what it was", house.gap(0), 0);
        house.pass(0, 0, 10, 3);
        house.pass(1, 15, 20, 4);
        Probe.is("GAP 0", house.best(100), 7);
        house.gap(6);
        Probe.is("GAP 6", house.best(100), 4);
        house.gap(5);
        Probe.is("GAP 5", house.best(100), 7);
    }

    private static int both(int gap, int station, int from, int to, boolean turned) {
        MissionHouse house = new MissionHouse();
        if (gap >= 0) {
            house.gap(gap);
        }
        if (turned) {
            house.pass(station, from, to, 2);
            house.pass(1, 1000, 1100, 1);
        } else {
            house.pass(1, 1000, 1100, 1);
            house.pass(station, from, to, 2);
        }
        return house.best(101);
    }

    private static void choices() {
        Doc.says("Part IX", "A CHOICE is some of them of which no two overlap; between two of different stations lie at least GAP (0 .. 999; 10 at first),"
            + " between two of the same one at least 0.");
        for (boolean turned : new boolean[] {false, true}) {
            for (int gap : new int[] {-1, 0, 1, 10, 999}) {
                int least = gap < 0 ? 10 : gap;
                for (int station = 0; station < 4; station++) {
                    int between = station == 1 ? 0 : least;
                    String what = "gap " + gap + " station " + station + " ";
                    Probe.is(what + "behind", both(gap, station, 1100 + between, 3000, turned), 2);
                    Probe.is(what + "too near behind", both(gap, station, 1099 + between, 3000, turned), 1);
                    Probe.is(what + "ahead", both(gap, station, 0, 1000 - between, turned), 2);
                    Probe.is(what + "too near ahead", both(gap, station, 0, 1001 - between, turned), 1);
                    Probe.is(what + "in it", both(gap, station, 1050, 1051, turned), 1);
                    Probe.is(what + "round it", both(gap, station, 900, 1200, turned), 1);
                    Probe.is(what + "the same", both(gap, station, 1000, 1100, turned), 1);
                }
            }
        }
    }

    private static void chosen(String what, MissionHouse house, int worth, int... numbers) {
        Probe.is(what + ": sum", house.best(100), worth);
        Probe.is(what + ": how many", house.best(101), numbers.length);
        for (int i = 0; i < 12; i++) {
            int due = 0;
            for (int number : numbers) {
                due |= number == i ? 1 : 0;
            }
            int answer = house.best(i);
            Probe.is(what + ": " + i, answer, answer == -1 ? -1 : due);
        }
    }

    private static void bests() {
        Doc.says("Part IX", "THE BEST has the greatest sum of WORTH, then the fewest, then the first numbers (by the least number in which two differ: the one that has it).");
        chosen("none", new MissionHouse(), 0);
        MissionHouse worth = new MissionHouse();
        worth.pass(0, 0, 10, 4);
        worth.pass(0, 20, 30, 4);
        worth.pass(0, 5, 25, 9);
        chosen("the greatest sum", worth, 9, 2);
        MissionHouse fewest = new MissionHouse();
        fewest.pass(0, 0, 10, 4);
        fewest.pass(0, 20, 30, 5);
        fewest.pass(0, 5, 25, 9);
        chosen("the fewest", fewest, 9, 2);
        MissionHouse more = new MissionHouse();
        more.pass(0, 5, 25, 8);
        more.pass(0, 0, 10, 4);
        more.pass(0, 20, 30, 5);
        chosen("the greatest sum, not the fewest", more, 9, 1, 2);
        MissionHouse first = new MissionHouse();
        for (int i = 0; i < 12; i++) {
            first.pass(i % 4, 0, 10, 5);
        }
        chosen("the first of twelve", first, 5, 0);
        MissionHouse pairs = new MissionHouse();
        pairs.gap(30);
        pairs.pass(0, 0, 20, 1);
        pairs.pass(1, 10, 30, 1);
        pairs.pass(1, 40, 60, 1);
        pairs.pass(0, 50, 70, 1);
        chosen("0 and 3, not 1 and 2", pairs, 2, 0, 3);
        MissionHouse last = new MissionHouse();
        last.pass(0, 0, 10, 3);
        last.pass(0, 100, 110, 1);
        last.pass(0, 105, 115, 2);
        last.pass(0, 108, 118, 2);
        chosen("they differ in 2 first", last, 5, 0, 2);
        MissionHouse all = new MissionHouse();
        for (int i = 0; i < 12; i++) {
            all.pass(3, 99999 - 2 * i - 1, 99999 - 2 * i, 99);
        }
        chosen("all", all, 1188, 0, 1, 2, 3, 4, 5, 6, 7, 8, 9, 10, 11);
    }

    private static void cleared() {
        Doc.says("Promise 32", "All PASSES go: how many there were.");
        MissionHouse house = new MissionHouse();
        Probe.is("none", house.clear(), 0);
        house.pass(0, 0, 1, 1);
        Probe.is("one", house.clear(), 1);
        Probe.is("none", house.clear(), 0);
        for (int i = 0; i < 12; i++) {
            house.pass(0, i, i + 1, 1);
        }
        Probe.is("the sum", house.best(100), 12);
        Probe.is("twelve", house.clear(), 12);
        Probe.is("no sum", house.best(100), 0);
        Probe.is("none", house.best(101), 0);
        Probe.is("from 0 on again", house.pass(0, 0, 1, 3), 0);
        Probe.is("the sum", house.best(100), 3);
        house.gap(77);
        house.clear();
        Probe.is("GAP stays", house.gap(10), 77);
    }

    private static void whats() {
        Doc.says("Promise 33", "NONE for another what.");
        MissionHouse house = new MissionHouse();
        for (int i = 0; i < 12; i++) {
            house.pass(0, i, i + 1, 1);
        }
        for (int what : new int[] {-1, 12, 13, 31, 32, 64, 99, 102, 1000, Integer.MIN_VALUE, Integer.MAX_VALUE}) {
            Probe.is("what " + what, house.best(what), -1);
            Twins.refused("what " + what, Twins::busy, -1, h -> h.best(what));
        }
        Doc.says("Promise 33", "By THE BEST, what 0 .. 11: whether that PASS is in it (1, 0), 100: the sum of WORTH, 101: how many.");
        for (int i = 0; i < 12; i++) {
            Probe.is("what " + i, house.best(i), 1);
        }
        Probe.is("what 100", house.best(100), 12);
        Probe.is("what 101", house.best(101), 12);
        Doc.says("CORNERS", "best() of a PASS that there is not is NONE.");
        for (int passes = 0; passes <= 12; passes++) {
            MissionHouse some = new MissionHouse();
            for (int i = 0; i < passes; i++) {
                some.pass(0, 0, 1, 1);
            }
            for (int i = 0; i < 12; i++) {
                Probe.is("PASS " + i + " of " + passes, some.best(i), i >= passes ? -1 : i == 0 ? 1 : 0);
            }
        }
    }

    private static void bars() {
        Doc.says("Promise 34", "A FIELD is barred, or not: 1 if it was, else 0; NONE if there is none such.");
        Twins.range("column", 0, 23, 0, (house, x) -> house.bar(x, 3, true));
        Twins.range("row", 0, 11, 0, (house, x) -> house.bar(3, x, true));
        Twins.beyond("column", 0, 23, (house, x) -> house.bar(x, 0, false));
        Twins.beyond("row", 0, 11, (house, x) -> house.bar(23, x, false));
        for (int column = 0; column < 24; column += 23) {
            for (int row = 0; row < 12; row += 11) {
                MissionHouse house = new MissionHouse();
                Probe.is("it was not", house.bar(column, row, true), 0);
                Probe.is("it was", house.bar(column, row, true), 1);
                for (int field = 0; field < 288; field++) {
                    boolean isIt = field / 12 == column && field % 12 == row;
                    Probe.is("field " + field, house.bar(field / 12, field % 12, isIt), isIt ? 1 : 0);
                }
                Probe.is("it was", house.bar(column, row, false), 1);
                Probe.is("it was not", house.bar(column, row, false), 0);
            }
        }
    }

    private static void turns() {
        Doc.says("Part X", "A TURN goes to the next FIELD left, right, up (row less one) or down.");
        Probe p = new Probe();
        p.way(5, 5, 4, 5, "l");
        p.way(5, 5, 6, 5, "r");
        p.way(5, 5, 5, 4, "u");
        p.way(5, 5, 5, 6, "d");
        p.way(5, 5, 6, 6, "rd");
        Doc.says("Promise 35", "The WAY from a FIELD to another one: how many TURNS; they are written (u l r d).");
        p.way(5, 5, 5, 5, "");
        p.way(0, 0, 12, 11, "l".repeat(12) + "d".repeat(11));
        p.way(12, 11, 0, 0, "u".repeat(11) + "l".repeat(12));
    }

    private static void around() {
        Doc.says("Part X", "The sky has 24 columns, that go round, and 12 rows (0 .. 11, that do not); FIELDS are barred or not.");
        Probe p = new Probe();
        for (int row = 0; row < 12; row++) {
            p.way(0, row, 23, row, "l");
            p.way(23, row, 0, row, "r");
            p.way(0, row, 12, row, "l".repeat(12));
            p.way(0, row, 11, row, "r".repeat(11));
            p.way(0, row, 13, row, "l".repeat(11));
            p.way(23, row, 10, row, "r".repeat(11));
        }
        for (int column = 0; column < 24; column++) {
            p.way(column, 0, column, 11, "d".repeat(11));
            p.way(column, 11, column, 0, "u".repeat(11));
        }
        Probe ring = new Probe();
        for (int column = 0; column < 24; column++) {
            ring.house.bar(column, 6, true);
        }
        Probe.is("rows do not go round", ring.house.way(0, 0, 0, 11), -1);
        Probe.is("rows do not go round", ring.house.way(0, 11, 0, 0), -1);
        ring.house.bar(23, 6, false);
        ring.way(0, 5, 0, 7, "lddr");
        Probe wall = new Probe();
        for (int row = 0; row < 12; row++) {
            wall.house.bar(0, row, true);
        }
        wall.way(1, 4, 23, 4, "r".repeat(22));
        wall.way(23, 4, 1, 4, "l".repeat(22));
    }

    private static void wayRefused() {
        Doc.says("Promise 35", "NONE if there is none, or no such FIELD.");
        Twins.beyond("column", 0, 23, (house, x) -> house.way(x, 1, 1, 1));
        Twins.beyond("row", 0, 11, (house, x) -> house.way(1, x, 1, 1));
        Twins.beyond("to column", 0, 23, (house, x) -> house.way(1, 1, x, 1));
        Twins.beyond("to row", 0, 11, (house, x) -> house.way(1, 1, 1, x));
        for (int[] corner : new int[][] {{0, 0}, {23, 0}, {0, 11}, {23, 11}}) {
            Probe.is("a corner", new MissionHouse().way(corner[0], corner[1], corner[0], corner[1]), 0);
        }
        Probe p = new Probe();
        p.way(5, 5, 6, 5, "r");
        for (int[] side : new int[][] {{4, 5}, {6, 5}, {5, 4}, {5, 6}}) {
            p.house.bar(side[0], side[1], true);
        }
        Probe.is("shut in", p.house.way(5, 5, 0, 0), -1);
        Probe.is("shut out", p.house.way(0, 0, 5, 5), -1);
        Probe.is("what was written stays", p.out(), "r");
        p.way(5, 5, 5, 5, "");
        p.house.bar(5, 4, false);
        Probe.is("a way again", p.house.way(5, 5, 5, 0), 5);
        Twins.refused("barred", Twins::busy, -1, house -> house.way(3, 5, 0, 0));
        Twins.refused("to one that is barred", Twins::busy, -1, house -> house.way(0, 0, 3, 4));
    }

    private static void ways() {
        Doc.says("Part X", "A WAY from one FIELD to another goes by fields that are not barred, both included, with the fewest TURNS");
        Probe p = new Probe();
        p.house.bar(5, 5, true);
        Probe.is("from a barred one", p.house.way(5, 5, 6, 5), -1);
        Probe.is("to a barred one", p.house.way(6, 5, 5, 5), -1);
        Probe.is("from it to itself", p.house.way(5, 5, 5, 5), -1);
        p.way(4, 5, 6, 5, "urrd");
        p.house.bar(5, 5, false);
        p.way(4, 5, 6, 5, "rr");
        Probe comb = new Probe();
        for (int column = 1; column < 24; column += 2) {
            for (int row = 0; row < 12; row++) {
                comb.house.bar(column, row, column == 23 || row != (column % 4 == 1 ? 11 : 0));
            }
        }
        StringBuilder due = new StringBuilder();
        for (int column = 0; column < 22; column += 2) {
            due.append((column % 4 == 0 ? "d" : "u").repeat(11)).append("rr");
        }
        comb.way(0, 0, 22, 0, due + "u".repeat(11));
    }

    private static void firstOfThem() {
        Doc.says("Part X", "of those it is the first by its TURNS in the order up, left, right, down.");
        Probe p = new Probe();
        p.way(5, 5, 4, 4, "ul");
        p.way(5, 5, 6, 4, "ur");
        p.way(5, 5, 4, 6, "ld");
        p.way(5, 5, 6, 6, "rd");
        p.way(5, 5, 17, 5, "l".repeat(12));
        p.way(5, 5, 17, 4, "u" + "l".repeat(12));
        p.way(5, 5, 17, 6, "l".repeat(12) + "d");
        p.house.bar(5, 4, true);
        p.way(5, 5, 4, 4, "lu");
        p.way(5, 5, 5, 3, "luur");
        p.house.bar(4, 5, true);
        p.way(5, 5, 5, 3, "ruul");
        p.house.bar(6, 5, true);
        p.way(5, 5, 5, 3, "dlluuurr");
        p.house.bar(4, 6, true);
        p.way(5, 5, 5, 3, "drruuull");
    }
}
