/** Promises 30 to 33: pass, gap, clear, best. */
final class PassesTest {
    public static void main(String[] args) {
        telling();
        gaps();
        together();
        ties();
        Probe.finish("PassesTest");
    }

    private static void telling() {
        MissionHouse house = new MissionHouse();
        Probe.is("station -1", house.pass(-1, 0, 1, 1), -1);
        Probe.is("station 4", house.pass(4, 0, 1, 1), -1);
        Probe.is("from -1", house.pass(0, -1, 1, 1), -1);
        Probe.is("to 100,000", house.pass(0, 0, 100000, 1), -1);
        Probe.is("to as from", house.pass(0, 5, 5, 1), -1);
        Probe.is("to below from", house.pass(0, 5, 4, 1), -1);
        Probe.is("from 100,000", house.pass(0, 100000, 100001, 1), -1);
        Probe.is("worth 0", house.pass(0, 0, 1, 0), -1);
        Probe.is("worth 100", house.pass(0, 0, 1, 100), -1);
        Probe.is("none came", house.clear(), 0);
        Probe.is("best of none", house.best(0), -1);
        Probe.is("the greatest", house.pass(3, 99998, 99999, 99), 0);
        Probe.is("the least", house.pass(0, 0, 1, 1), 1);
        for (int i = 2; i < 12; i++) {
            Probe.is("further", house.pass(0, 100 * i, 100 * i + 1, 1), i);
        }
        Probe.is("a thirteenth", house.pass(0, 5000, 5001, 1), -4);
        Probe.is("NONE ahead of FULL", house.pass(0, 5000, 5000, 1), -1);
        Probe.is("all go together", house.best(100), 110);
        Probe.is("all", house.best(101), 12);
        Probe.is("the last", house.best(11), 1);
        Probe.is("what 12", house.best(12), -1);
        Probe.is("what -1", house.best(-1), -1);
        Probe.is("what 99", house.best(99), -1);
        Probe.is("what 102", house.best(102), -1);
        Probe.is("clear", house.clear(), 12);
        Probe.is("none", house.best(0), -1);
        Probe.is("none", house.best(100), 0);
        Probe.is("none", house.best(101), 0);
        Probe.is("numbers begin anew", house.pass(1, 7, 8, 3), 0);
        Probe.is("there", house.best(0), 1);
        Probe.is("not there", house.best(1), -1);
    }

    private static void gaps() {
        MissionHouse house = new MissionHouse();
        Probe.is("gap -1", house.gap(-1), -1);
        Probe.is("gap 1000", house.gap(1000), -1);
        Probe.is("10 at first", house.gap(999), 10);
        Probe.is("999", house.gap(0), 999);
        Probe.is("0", house.gap(5), 0);
        house.clear();
        Probe.is("clear leaves it", house.gap(5), 5);
    }

    private static int sum(int gap, int[]... passes) {
        MissionHouse house = new MissionHouse();
        house.gap(gap);
        for (int[] p : passes) {
            house.pass(p[0], p[1], p[2], p[3]);
        }
        return house.best(100);
    }

    private static void together() {
        Probe.is("same station, touching", sum(10, new int[] {0, 0, 10, 1}, new int[] {0, 10, 20, 1}), 2);
        Probe.is("same station, overlapping", sum(10, new int[] {0, 0, 10, 1}, new int[] {0, 9, 20, 1}), 1);
        Probe.is("same station, the other way", sum(10, new int[] {0, 10, 20, 1}, new int[] {0, 0, 10, 1}), 2);
        Probe.is("same station, one in the other", sum(10, new int[] {0, 0, 30, 1}, new int[] {0, 10, 20, 1}), 1);
        Probe.is("the same twice", sum(10, new int[] {0, 0, 30, 1}, new int[] {0, 0, 30, 1}), 1);
        Probe.is("others, 10 between", sum(10, new int[] {0, 0, 10, 1}, new int[] {1, 20, 30, 1}), 2);
        Probe.is("others, 9 between", sum(10, new int[] {0, 0, 10, 1}, new int[] {1, 19, 30, 1}), 1);
        Probe.is("others, the other way", sum(10, new int[] {1, 20, 30, 1}, new int[] {0, 0, 10, 1}), 2);
        Probe.is("others, gap 0, touching", sum(0, new int[] {0, 0, 10, 1}, new int[] {1, 10, 30, 1}), 2);
        Probe.is("others, gap 0, overlapping", sum(0, new int[] {0, 0, 10, 1}, new int[] {1, 9, 30, 1}), 1);
        Probe.is("one of great worth", sum(0, new int[] {0, 0, 10, 3}, new int[] {1, 9, 30, 7}, new int[] {0, 29, 30, 3}), 7);
    }

    private static void ties() {
        MissionHouse fewest = new MissionHouse();
        fewest.pass(0, 0, 10, 2);
        fewest.pass(0, 10, 20, 2);
        fewest.pass(0, 0, 20, 4);
        Probe.is("worth", fewest.best(100), 4);
        Probe.is("the fewest", fewest.best(101), 1);
        Probe.is("not 0", fewest.best(0), 0);
        Probe.is("not 1", fewest.best(1), 0);
        Probe.is("but 2", fewest.best(2), 1);
        MissionHouse first = new MissionHouse();
        first.pass(0, 5, 15, 3);
        first.pass(0, 0, 10, 3);
        Probe.is("the first number", first.best(0), 1);
        Probe.is("the first number", first.best(1), 0);
        MissionHouse least = new MissionHouse();
        least.pass(0, 0, 10, 1);
        least.pass(0, 20, 30, 2);
        least.pass(0, 5, 15, 2);
        least.pass(0, 25, 35, 1);
        // 1 and 2 are worth 4
        Probe.is("worth", least.best(100), 4);
        least.clear();
        least.pass(0, 0, 10, 2);
        least.pass(0, 100, 110, 1);
        least.pass(0, 100, 110, 2);
        least.pass(0, 5, 15, 2);
        // 0 and 2, or 2 and 3: the least number in which they differ is 0
        Probe.is("0", least.best(0), 1);
        Probe.is("2", least.best(2), 1);
        Probe.is("3", least.best(3), 0);
        MissionHouse pairs = new MissionHouse();
        pairs.gap(30);
        pairs.pass(0, 0, 20, 1);
        pairs.pass(1, 10, 30, 1);
        pairs.pass(1, 40, 60, 1);
        pairs.pass(0, 50, 70, 1);
        // 0 and 3, or 1 and 2: the one that has 0
        int[] chosen = {1, 0, 0, 1};
        for (int i = 0; i < 4; i++) {
            Probe.is("pairs", pairs.best(i), chosen[i]);
        }
        Probe.is("gap is looked at anew", least.gap(999), 10);
        Probe.is("0", least.best(0), 1);
        least.pass(1, 0, 10, 3);
        Probe.is("a further pass is looked at", least.best(100), 4);
        Probe.is("gap is looked at anew", least.gap(0), 999);
        Probe.is("gap 0", least.best(100), 5);
        Probe.is("4", least.best(4), 1);
    }
}
