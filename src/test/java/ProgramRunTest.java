/** Promises 13, 14 and 21: programs as they run, due starts, runs. */
final class ProgramRunTest {
    public static void main(String[] args) {
        dues();
        lines();
        eightLines();
        waiting();
        conditions();
        things();
        others();
        itself();
        lostVariables();
        Probe.finish("ProgramRunTest");
    }

    private static void dues() {
        Probe p = new Probe();
        Probe.is("program -1", p.house.due(5, -1), -1);
        Probe.is("program 8", p.house.due(5, 8), -1);
        Probe.is("not above the clock", p.house.due(0, 0), -1);
        Probe.is("below 0", p.house.due(-5, 0), -1);
        p.house.tick(3);
        Probe.is("not above the clock", p.house.due(3, 0), -1);
        for (int i = 0; i < 10; i++) {
            Probe.is("due", p.house.due(4 + i, i % 8), i + 1);
        }
        Probe.is("an eleventh", p.house.due(50, 0), -4);
        Probe.is("NONE ahead of FULL", p.house.due(3, 0), -1);
        Probe.is("left", p.house.ship(13), 10);
        p.house.tick(1);
        Probe.is("left", p.house.ship(13), 9);
        Probe.is("room again", p.house.due(4 + 500, 7), 10);
        p.house.tick(9);
        Probe.is("left", p.house.ship(13), 1);
        Probe.is("runs what -1", p.house.runs(0, -1), -1);
        Probe.is("runs what 4", p.house.runs(0, 4), -1);
        Probe.is("runs program -1", p.house.runs(-1, 0), -1);
        Probe.is("runs program 8", p.house.runs(8, 0), -1);
        Probe q = Probe.begun("add v0 1\nwait 9\n");
        q.house.due(1, 0);
        q.house.due(2, 0);
        q.house.tick(1);
        q.variable(0, 1);
        q.state(0, 1, 2, 9);
        q.house.tick(1);
        q.variable(0, 2);
        q.state(0, 1, 2, 9);
        Probe.is("all are done", q.house.ship(13), 0);
    }

    private static void lines() {
        Probe p = Probe.begun("on 3\non 5\noff 3\nset v0 9\nadd v0 250\nset v1 7\nset v1 4\n");
        p.house.tick(1);
        Probe.is("on 3, off 3", p.house.served(3, 0), 0);
        Probe.is("on 5", p.house.served(5, 0), 1);
        p.variable(0, 3);
        p.variable(1, 4);
        p.state(0, 0, -1, 0);
        Probe.is("lines", p.house.runs(0, 0), 7);
        Probe q = Probe.begun("go 2\nset v0 1\nset v1 1\nend\nset v2 1\n");
        q.house.tick(1);
        q.variable(0, 0);
        q.variable(1, 1);
        q.variable(2, 0);
        q.state(0, 0, -1, 0);
        Probe none = new Probe();
        none.house.due(1, 4);
        none.house.tick(1);
        none.state(4, 0, -1, 0);
        Probe away = Probe.begun("go 29\n");
        away.house.tick(1);
        away.state(0, 0, -1, 0);
    }

    private static void eightLines() {
        Probe p = Probe.begun("add v0 1\n".repeat(9));
        p.house.tick(1);
        p.variable(0, 8);
        p.state(0, 1, 8, 0);
        p.house.tick(1);
        p.variable(0, 9);
        p.state(0, 0, -1, 0);
        Probe eight = Probe.begun("add v0 1\n".repeat(8));
        eight.house.tick(1);
        eight.variable(0, 8);
        eight.state(0, 1, 8, 0);
        eight.house.tick(1);
        eight.state(0, 0, -1, 0);
        Probe ends = Probe.begun("add v0 1\n".repeat(7) + "end\n");
        ends.house.tick(1);
        ends.state(0, 0, -1, 0);
        Probe seven = Probe.begun("add v0 1\n".repeat(7));
        seven.house.tick(1);
        seven.state(0, 0, -1, 0);
        Probe endNinth = Probe.begun("add v0 1\n".repeat(8) + "end\n");
        endNinth.house.tick(1);
        endNinth.state(0, 1, 8, 0);
        Probe loop = Probe.begun("add v0 1\nif v0 > 200 go 3\ngo 0\nend\n");
        loop.house.tick(1);
        loop.variable(0, 3);
        loop.state(0, 1, 2, 0);
        loop.house.tick(1);
        loop.variable(0, 6);
        loop.state(0, 1, 1, 0);
        Probe until = Probe.begun("until bat > 0\nuntil bat > 0\nif bat = 0 go 0\nif bat = 0 go 0\nadd v0 1\nadd v0 1\nadd v0 1\nadd v0 1\nadd v0 1\n");
        until.house.tick(1);
        until.variable(0, 4);
        until.state(0, 1, 8, 0);
        Probe full = Probe.begun("add v0 1\n".repeat(30));
        full.house.tick(4);
        full.variable(0, 30);
        full.state(0, 0, -1, 0);
        Probe far = Probe.begun("go 7\n" + "end\n".repeat(6) + "go 29\n" + "end\n");
        far.house.tick(1);
        far.state(0, 0, -1, 0);
    }

    private static void waiting() {
        Probe p = Probe.begun("wait 1\nadd v0 1\nwait 3\nadd v0 1\n");
        p.house.tick(1);
        p.state(0, 1, 1, 1);
        p.variable(0, 0);
        p.house.tick(1);
        p.variable(0, 1);
        p.state(0, 1, 3, 3);
        p.house.tick(1);
        p.state(0, 1, 3, 2);
        p.house.tick(1);
        p.state(0, 1, 3, 1);
        p.variable(0, 1);
        p.house.tick(1);
        p.variable(0, 2);
        p.state(0, 0, -1, 0);
        Probe last = Probe.begun("add v0 1\n".repeat(7) + "wait 2\nadd v0 1\n");
        last.house.tick(1);
        last.state(0, 1, 8, 2);
        last.house.tick(2);
        last.variable(0, 8);
        Probe longest = Probe.begun("wait 9999\n");
        longest.house.tick(1);
        longest.state(0, 1, 1, 9999);
        longest.house.tick(500);
        longest.state(0, 1, 1, 9499);
    }

    private static void conditions() {
        Probe p = Probe.begun("until v1 = 2\nadd v0 1\n");
        p.program(1, "add v1 1\nwait 1\ngo 0\n");
        p.house.due(1, 1);
        p.house.tick(2);
        p.state(0, 1, 0, 0);
        p.variable(1, 2);
        p.house.tick(1);
        p.variable(0, 1);
        p.state(0, 0, -1, 0);
        int[][] cases = {{'=', 4, 0}, {'=', 5, 1}, {'=', 6, 0}, {'<', 5, 0}, {'<', 6, 1}, {'<', -6, 0}, {'>', 5, 0}, {'>', 4, 1}, {'>', -4, 1}};
        for (int[] c : cases) {
            Probe q = Probe.begun("set v0 5\nif v0 " + (char) c[0] + " " + c[1] + " go 3\nend\nset v1 1\n");
            q.house.tick(1);
            q.variable(1, c[2]);
        }
    }

    /** Each thing is what the document says, seen by a program that waits for its value. */
    private static void things() {
        String[] untils = {"used = 40", "bat = 985", "sun = 0", "seen = 1", "rec = 6", "fix = 1", "ev = 1", "turn = 1", "mode = 1"};
        // 6 is on at 1 and served from 2 on: 985 at 2; angle 180 is at 5 (36 a second); angle 72 at 2
        int[] first = {2, 2, 5, 2, 3, 4, 10, 100, 4};
        for (int i = 0; i < untils.length; i++) {
            Probe q = new Probe();
            q.house.orbit(100, 0, 180, 36);
            q.house.station(2, 72, 36, 0);
            q.house.power(1000, 25);
            q.house.load(6, 40, 0);
            q.house.mode(1, 64, 255);
            q.program(0, "on 6\nwait 2\nemit 0\nwait 1\nmode 1\n");
            q.program(1, "until " + untils[i] + "\nset v7 1\nend\n");
            q.house.due(1, 0);
            q.house.due(1, 1);
            q.house.flip(4, 4);
            q.house.flip(10, 4);
            q.house.flip(10, 5);
            q.house.tick(first[i] - 1);
            Probe.is("not yet: " + untils[i], q.house.word(7, 1), 0);
            q.house.tick(1);
            Probe.is("then: " + untils[i], q.house.word(7, 1), 1);
        }
    }

    private static void others() {
        Probe p = Probe.begun("set v5 1\n");
        p.program(3, "run 5\nrun 1\nkill 6\nwait 9\n");
        p.program(5, "add v5 10\nwait 9\n");
        p.program(1, "add v1 1\nwait 9\n");
        p.program(6, "add v6 1\nwait 1\ngo 0\n");
        p.house.due(1, 6);
        p.house.due(2, 3);
        p.house.tick(1);
        p.variable(6, 1);
        p.house.tick(1);
        p.variable(5, 11);
        p.variable(1, 0);
        p.state(1, 1, 0, 0);
        p.state(6, 0, -1, 0);
        p.variable(6, 1);
        p.house.tick(1);
        p.variable(1, 1);
        p.state(1, 1, 2, 9);
        p.state(5, 1, 2, 8);

        Probe again = Probe.begun("wait 2\nrun 1\nrun 2\nend\n");
        again.program(1, "add v1 1\nwait 50\nend\n");
        again.program(2, "add v2 1\nend\n");
        again.house.due(1, 1);
        again.house.tick(2);
        again.state(1, 1, 2, 49);
        again.house.tick(1);
        again.variable(1, 2);
        again.state(1, 1, 2, 50);
        again.variable(2, 1);

        Probe empty = new Probe();
        empty.program(3, "run 1\nend\n");
        empty.house.due(1, 3);
        empty.house.tick(1);
        empty.state(1, 1, 0, 0);
        empty.house.tick(1);
        empty.state(1, 0, -1, 0);
        Probe kill = Probe.begun("wait 1\nkill 2\n");
        kill.program(2, "wait 30\n");
        kill.house.due(1, 2);
        kill.house.tick(1);
        kill.state(2, 1, 1, 30);
        kill.house.tick(1);
        kill.state(2, 0, -1, 0);
    }

    private static void itself() {
        Probe p = Probe.begun("add v0 1\nrun 0\nadd v1 1\n");
        p.house.tick(1);
        p.variable(0, 4);
        p.variable(1, 0);
        p.state(0, 1, 0, 0);
        Probe q = Probe.begun("add v0 1\nkill 0\nadd v0 1\n");
        q.house.tick(1);
        q.variable(0, 1);
        q.state(0, 0, -1, 0);
    }

    private static void lostVariables() {
        String[] reads = {"until v2 = 0", "if v2 = 0 go 3", "add v2 1", "emit 2", "emit 7"};
        for (String line : reads) {
            Probe p = Probe.begun("set v7 1\n" + line + "\nset v7 2\nset v7 3\n");
            p.house.flip(2, 3);
            p.house.flip(2, 9);
            int bits = p.house.word(2, 0);
            p.house.tick(1);
            Probe.is("an event by " + line, p.house.ship(6), 1);
            p.state(0, 0, -1, 0);
            p.variable(7, 1);
            Probe.is("nothing is written", p.house.word(2, 0), bits);
            Probe.is("nothing is recorded", p.house.ship(10), 0);
        }
        Probe both = Probe.begun("emit 3\n");
        for (int v = 0; v < 4; v++) {
            if (v != 1) {
                both.house.flip(v, 3);
                both.house.flip(v, 9);
            }
        }
        both.house.tick(1);
        Probe.is("one event", both.house.ship(6), 1);
        for (String line : new String[] {"until v2 = 0", "if v2 = 0 go 0", "add v2 1", "end", "kill 1", "go 9"}) {
            Probe next = new Probe();
            next.program(0, "add v7 1\n".repeat(30));
            next.program(1, line + "\n");
            next.house.flip(2, 3);
            next.house.flip(2, 9);
            next.house.due(1, 1);
            next.house.tick(1);
            next.variable(7, 0);
            next.state(1, 0, -1, 0);
        }
        Probe ahead = Probe.begun("emit 0\nset v1 5\n");
        ahead.house.flip(1, 3);
        ahead.house.tick(1);
        Probe.is("memory mends ahead of programs", ahead.house.ship(7), 1);
        Probe unread = Probe.begun("emit 1\nset v2 5\nadd v2 1\nset v7 1\n");
        unread.house.flip(2, 3);
        unread.house.flip(2, 9);
        unread.house.tick(1);
        Probe.is("what is not read, or set, does not matter", unread.house.ship(6), 0);
        unread.variable(2, 6);
        unread.variable(7, 1);
        Probe one = Probe.begun("add v2 1\n");
        one.house.flip(2, 3);
        one.house.tick(1);
        one.variable(2, 1);
        Probe.is("one wrong bit is read right and written anew, not mended", one.house.ship(7), 0);
    }
}
