/** Part VI but for its MODES and MONITORS, and promises 13, 14 and 21: program, due, runs. */
final class EdgesPrograms {
    static void all() {
        programs();
        numbersOfLines();
        theirLines();
        blanks();
        things();
        begins();
        eightLines();
        waits();
        untils();
        ends();
        byAnother();
        itself();
        lostVariables();
        dues();
        duesFull();
        runs();
    }

    private static void programs() {
        Doc.says("Promise 13", "NONE if there is no such k; WRONG.");
        Twins.beyond("program", 0, 7, (house, x) -> house.program(x));
        Doc.says("Promise 13", "THE TAPE is PROGRAM k: how many lines it has; it ends, if it runs.");
        for (int k = 0; k < 8; k++) {
            Probe p = new Probe();
            Probe.is("program " + k, p.program(k, "set v" + k + " 9\nwait 5\n"), 2);
            for (int other = 0; other < 8; other++) {
                Probe.is("lines of " + other, p.house.runs(other, 0), other == k ? 2 : 0);
            }
            p.house.due(1, k);
            p.house.tick(1);
            p.variable(k, 9);
            p.state(k, 1, 2, 5);
            Probe.is("anew", p.program(k, "end\n".repeat(30)), 30);
            Probe.is("lines", p.house.runs(k, 0), 30);
            p.state(k, 0, -1, 0);
            Probe.is("anew", p.program(k, "end\n"), 1);
            Probe.is("lines", p.house.runs(k, 0), 1);
        }
        Probe shorter = new Probe();
        shorter.program(0, "set v0 1\nset v1 1\nset v2 1\n");
        shorter.program(0, "set v0 2\n");
        shorter.house.due(1, 0);
        shorter.house.tick(1);
        shorter.variable(0, 2);
        Probe.is("nothing of the lines before", shorter.house.word(1, 1) + shorter.house.word(2, 1), 0);
        shorter.state(0, 0, -1, 0);
    }

    private static void numbersOfLines() {
        Doc.says("Part VI", "PROGRAMS 0 .. 7, of lines 0 .. 29, each with byte 10 behind it, one at least.");
        Probe.is("none", new Probe().program(0, ""), -1000);
        Probe.is("an empty one", new Probe().program(0, "\n"), -1000);
        Probe.is("an empty one behind another", new Probe().program(0, "end\n\n"), -1004);
        Probe.is("one", new Probe().program(0, "end\n"), 1);
        Probe.is("one without its byte 10", new Probe().program(0, "end"), -1003);
        Probe.is("two, the last without its byte 10", new Probe().program(0, "end\nend"), -1007);
        Probe.is("29", new Probe().program(7, "end\n".repeat(29)), 29);
        Probe.is("30", new Probe().program(7, "end\n".repeat(30)), 30);
        Probe.is("31", new Probe().program(7, "end\n".repeat(31)), -1120);
        for (int k = 0; k < 8; k += 7) {
            Probe p = new Probe();
            p.program(k, "add v0 1\n".repeat(29) + "set v1 1\n");
            p.house.due(1, k);
            p.house.tick(3);
            Probe.is("24 of 30", p.house.runs(k, 2), 24);
            p.house.tick(1);
            p.variable(0, 29);
            p.variable(1, 1);
            p.state(k, 0, -1, 0);
        }
        Probe side = new Probe();
        for (int k = 0; k < 8; k++) {
            side.program(k, ("add v" + k + " 1\n").repeat(30));
        }
        for (int k = 0; k < 8; k++) {
            Probe.is("each has 30", side.house.runs(k, 0), 30);
            side.house.due(1, k);
        }
        side.house.tick(4);
        for (int k = 0; k < 8; k++) {
            side.variable(k, 30);
            side.state(k, 0, -1, 0);
        }
        Probe fewer = Probe.begun("set v1 1\n".repeat(30));
        Probe.is("one less", fewer.program(0, "end\n".repeat(29)), 29);
        Probe.is("one less", fewer.house.runs(0, 0), 29);
        fewer.program(0, "go 29\n");
        fewer.house.tick(1);
        fewer.variable(1, 0);
        Probe last = Probe.begun("go 29\n" + "end\n".repeat(28) + "set v1 1\n");
        last.program(1, "set v2 1\n");
        last.house.tick(1);
        last.variable(1, 1);
        last.variable(2, 0);
        last.state(0, 0, -1, 0);
    }

    private static void theirLines() {
        Doc.says("Part VI", "A line: on LOAD, off LOAD (0 .. 7); wait NUMBER (1 .. 9999); until CONDITION; if CONDITION go NUMBER;"
            + " go NUMBER (a line of the PROGRAM, 0 .. 29); set V NUMBER, add V NUMBER (V: v0 .. v7; 0 .. 255); emit NUMBER (0 .. 15);"
            + " mode NUMBER (0 .. 3); run NUMBER, kill NUMBER (0 .. 7); end.");
        for (int i = 0; i < 8; i++) {
            Probe p = new Probe();
            p.program(i, "on " + i + "\nwait 9\noff " + i + "\n");
            p.house.due(1, i == 0 ? 1 : 0);
            p.program(i == 0 ? 1 : 0, "on " + i + "\nrun " + i + "\nwait 1\noff " + i + "\nkill " + i + "\n");
            p.house.tick(1);
            Probe.is("on " + i, p.house.served(i, 0), 1);
            Probe.is("run " + i, p.house.runs(i, 1), 1);
            p.house.tick(1);
            Probe.is("off " + i, p.house.served(i, 0), 0);
            Probe.is("kill " + i, p.house.runs(i, 1), 0);
            Probe v = Probe.begun("set v" + i + " 255\nwait 1\nset v" + i + " 0\nwait 1\nadd v" + i + " 255\nwait 1\nadd v" + i + " 0\n");
            int[] values = {255, 0, 255, 255};
            for (int due : values) {
                v.house.tick(1);
                v.variable(i, due);
            }
        }
        for (int m = 0; m < 4; m++) {
            Probe p = Probe.begun("mode 2\nmode " + m + "\n");
            p.house.mode(2, 0, 255);
            p.house.tick(1);
            Probe.is("mode " + m, p.house.ship(5), m);
        }
        for (int n = 0; n < 16; n++) {
            Probe p = Probe.begun("emit " + n + "\n");
            p.house.tick(1);
            Probe.is("emit " + n, p.house.ship(9), 6 + n % 4);
            Probe.is("one", p.house.ship(10), 1);
        }
        for (int line = 1; line < 30; line++) {
            for (String go : new String[] {"go ", "if bat > 0 go "}) {
                Probe p = Probe.begun(go + line + "\n" + "add v0 1\n".repeat(29));
                p.house.tick(5);
                p.variable(0, 30 - line);
                p.state(0, 0, -1, 0);
            }
        }
        Doc.says("CORNERS", "add is mod 256.");
        int[][] sums = {{255, 1, 0}, {255, 255, 254}, {1, 255, 0}, {0, 255, 255}, {128, 128, 0}, {128, 127, 255}, {255, 0, 255}};
        for (int[] s : sums) {
            Probe p = Probe.begun("set v3 " + s[0] + "\nadd v3 " + s[1] + "\n");
            p.house.tick(1);
            p.variable(3, s[2]);
        }
    }

    private static void blanks() {
        Doc.says("Part VI", "One blank between words.");
        for (String line : new String[] {"on 1", "off 1", "wait 1", "until bat = -1", "if v0 > 1 go 1", "go 1", "set v1 1", "add v1 1", "emit 1", "mode 1",
            "run 1", "kill 1"}) {
            for (int at = line.indexOf(' '); at >= 0; at = line.indexOf(' ', at + 1)) {
                String two = line.substring(0, at) + " " + line.substring(at);
                Probe.is("program '" + two + "'", new Probe().program(0, two + "\n"), -1000 - at - 1);
                Probe.is("command 'line 0 0 " + two + "'", new Probe().command("line 0 0 " + two), -1000 - at - 10);
                String tab = line.substring(0, at) + "\t" + line.substring(at + 1);
                Probe.is("program '" + tab + "'", new Probe().program(0, tab + "\n"), -1000 - at);
            }
            Probe.is("ahead of it", new Probe().program(0, " " + line + "\n"), -1000);
            Probe.is("behind it", new Probe().program(0, line + " \n"), -1000 - line.length());
        }
        String[] joined = {"on1", "wait1", "untilbat = 1", "until bat= 1", "until bat =1", "if v0 > 1go 1", "if v0 > 1 go1", "setv1 1", "set v11", "go1"};
        int[] places = {0, 0, 0, 9, 11, 9, 10, 0, 4, 0};
        for (int i = 0; i < joined.length; i++) {
            Probe.is("program '" + joined[i] + "'", new Probe().program(0, joined[i] + "\n"), -1000 - places[i]);
        }
        Probe.is("behind line", new Probe().command("line  0 0 end"), -1005);
        Probe.is("behind K", new Probe().command("line 0  0 end"), -1007);
        Probe.is("behind N", new Probe().command("line 0 0  end"), -1009);
        Probe.is("none behind line", new Probe().command("line0 0 end"), -1000);
        Probe.is("none behind N", new Probe().command("line 0 0end"), -1008);
        Probe.is("behind ready", new Probe().command("ready  0"), -1006);
    }

    /** Whether a CONDITION is true at CLOCK 130 of a ship of which much is known. */
    private static int holds(String condition, boolean inShadow) {
        Probe p = new Probe();
        p.house.orbit(60, 0, 0, inShadow ? 3600 : 0);
        p.house.station(3, 0, inShadow ? 0 : 3600, 0);
        p.house.power(5000, 33);
        p.house.load(6, 40, 0);
        p.house.load(7, 1000, 9);
        p.house.mode(2, 0b11000000, 255);
        p.house.flip(50, 1);
        p.house.flip(51, 1);
        p.house.flip(52, 1);
        p.house.flip(52, 2);
        p.program(0, "mode 2\nset v0 255\nset v1 1\nset v2 2\nset v3 3\nset v4 4\nset v5 5\nemit 3\nemit 0\n");
        p.program(7, "if " + condition + " go 2\nend\nset v7 77\n");
        p.house.due(129, 0);
        p.house.due(130, 7);
        p.house.tick(130);
        return p.house.word(7, 1) == 77 ? 1 : 0;
    }

    private static void things() {
        Doc.says("Part VI", "Things: bat (BATTERY), sun (SUN as it is in this second), used (by the latest TICK's LOADS), mode, rec (bytes in the RECORDER),"
            + " fix (MENDED), ev (EVENTS so far), turn (TURN), seen (1 if any station SEES the ship, else 0), v0 .. v7.");
        // in the sun BATTERY was full, and 33 came as 40 and 1000 were used
        String[] things = {"bat", "sun", "used", "mode", "rec", "fix", "ev", "turn", "seen", "v0", "v1", "v2", "v3", "v4", "v5", "v6", "v7"};
        int[] sunny = {3993, 33, 1040, 2, 15, 2, 1, 2, 1, 255, 1, 2, 3, 4, 5, 0, 0};
        // in the shadow LOAD 7 finds 960, and goes off: one EVENT more
        int[] dark = {960, 0, 40, 2, 15, 2, 2, 2, 0, 255, 1, 2, 3, 4, 5, 0, 0};
        for (int i = 0; i < things.length; i++) {
            for (boolean inShadow : new boolean[] {false, true}) {
                int value = inShadow ? dark[i] : sunny[i];
                for (int x = value - 1; x <= value + 1; x++) {
                    Probe.is(things[i] + " = " + x, holds(things[i] + " = " + x, inShadow), value == x ? 1 : 0);
                    Probe.is(things[i] + " < " + x, holds(things[i] + " < " + x, inShadow), value < x ? 1 : 0);
                    Probe.is(things[i] + " > " + x, holds(things[i] + " > " + x, inShadow), value > x ? 1 : 0);
                }
                Probe.is(things[i] + " > -99999", holds(things[i] + " > -99999", inShadow), 1);
                Probe.is(things[i] + " < 99999", holds(things[i] + " < 99999", inShadow), 1);
            }
        }
        for (int station = 0; station < 4; station++) {
            Probe p = Probe.begun("until seen = 1\nset v1 1\n");
            p.house.station(station, 0, 3600, 0);
            p.house.tick(1);
            p.variable(1, 1);
        }
    }

    private static void begins() {
        Doc.says("Part VI", "A PROGRAM RUNS, or not; run begins it at line 0 (also one that runs).");
        Probe p = new Probe();
        p.program(1, "run 2\nwait 2\nrun 2\n");
        p.program(2, "add v2 1\nwait 9\nadd v3 1\n");
        p.state(2, 0, -1, 0);
        p.house.due(1, 1);
        p.house.tick(1);
        p.variable(2, 1);
        p.state(2, 1, 2, 9);
        p.house.tick(1);
        p.state(2, 1, 2, 8);
        p.house.tick(1);
        p.variable(2, 2);
        p.state(2, 1, 2, 9);
        p.house.tick(8);
        p.variable(3, 0);
        p.house.tick(1);
        p.variable(3, 1);
        p.state(2, 0, -1, 0);
    }

    private static void eightLines() {
        Doc.says("Part VI", "At a TICK each that runs, from 0 on, does lines one behind the other: at most 8, till it stops");
        for (int lines = 7; lines <= 17; lines++) {
            Probe p = Probe.begun("add v0 1\n".repeat(lines));
            p.house.tick(1);
            p.variable(0, Math.min(lines, 8));
            p.state(0, lines > 7 ? 1 : 0, lines > 7 ? 8 : -1, 0);
            p.house.tick(1);
            p.variable(0, Math.min(lines, 16));
            p.state(0, lines > 15 ? 1 : 0, lines > 15 ? 16 : -1, 0);
        }
        Probe order = new Probe();
        for (int k = 7; k >= 0; k--) {
            order.program(k, "add v0 " + k + "\nset v1 " + k + "\nif v2 = " + k + " go 4\nend\nadd v2 1\n");
            order.house.due(1, k);
        }
        order.house.tick(1);
        order.variable(0, 28);
        order.variable(1, 7);
        order.variable(2, 8);
        Probe loop = Probe.begun("go 0\n");
        loop.house.tick(500);
        loop.state(0, 1, 0, 0);
        Doc.says("CORNERS", "until and if count as lines, whatever they tell; end as the eighth line ends it at once,"
            + " a line that there is not behind eight at the next TICK.");
        for (String line : new String[] {"until bat > 0", "if bat > 0 go %d", "if bat < 0 go 0", "go %d"}) {
            StringBuilder text = new StringBuilder();
            for (int i = 1; i <= 8; i++) {
                text.append(String.format(line, i)).append('\n');
            }
            Probe p = Probe.begun(text + "set v1 1\n");
            p.house.tick(1);
            p.variable(1, 0);
            p.state(0, 1, 8, 0);
            p.house.tick(1);
            p.variable(1, 1);
        }
        Probe seven = Probe.begun("add v0 1\n".repeat(7) + "end\nset v1 1\n");
        seven.house.tick(1);
        seven.state(0, 0, -1, 0);
        Probe eight = Probe.begun("add v0 1\n".repeat(8) + "end\n");
        eight.house.tick(1);
        eight.state(0, 1, 8, 0);
        eight.house.tick(1);
        eight.state(0, 0, -1, 0);
        Probe none = Probe.begun("add v0 1\n".repeat(8));
        none.house.tick(1);
        none.state(0, 1, 8, 0);
        none.house.tick(1);
        none.state(0, 0, -1, 0);
        Probe away = Probe.begun("add v0 1\n".repeat(7) + "go 29\n");
        away.house.tick(1);
        away.state(0, 1, 29, 0);
        away.house.tick(1);
        away.state(0, 0, -1, 0);
        Probe until = Probe.begun("add v0 1\n".repeat(7) + "until bat < 0\n");
        until.house.tick(1);
        until.state(0, 1, 7, 0);
    }

    private static void waits() {
        Doc.says("Part VI", "wait n goes on n TICKS later (the first line then is the one behind it)");
        for (int n : new int[] {1, 2, 3, 499, 9998, 9999}) {
            Probe p = Probe.begun("wait " + n + "\nset v1 1\nwait 1\n");
            p.house.tick(1);
            p.state(0, 1, 1, n);
            int left = n - 1;
            while (left > 0) {
                int step = Math.min(left, 500);
                p.house.tick(step);
                left -= step;
            }
            p.variable(1, 0);
            p.state(0, 1, 1, 1);
            p.house.tick(1);
            p.variable(1, 1);
            p.state(0, 1, 3, 1);
        }
        Doc.says("CORNERS", "Behind wait 1 it waits 1.");
        Probe p = Probe.begun("wait 1\nwait 1\nwait 1\n");
        for (int line = 1; line <= 3; line++) {
            p.house.tick(1);
            p.state(0, 1, line, 1);
        }
        p.house.tick(1);
        p.state(0, 0, -1, 0);
        Probe eighth = Probe.begun("add v0 1\n".repeat(7) + "wait 1\n" + "add v0 1\n".repeat(8) + "add v0 1\n");
        eighth.house.tick(1);
        eighth.state(0, 1, 8, 1);
        eighth.house.tick(1);
        eighth.variable(0, 15);
        eighth.state(0, 1, 16, 0);
    }

    private static void untils() {
        Doc.says("Part VI", "until does the same line again at the next TICK as long as CONDITION is false");
        Probe p = Probe.begun("until seen = 1\nset v1 1\nuntil seen = 0\nset v2 1\nwait 5\n");
        p.house.tick(20);
        p.state(0, 1, 0, 0);
        p.variable(1, 0);
        p.house.station(0, 0, 3600, 0);
        p.house.tick(1);
        p.variable(1, 1);
        p.state(0, 1, 2, 0);
        p.house.tick(20);
        p.state(0, 1, 2, 0);
        p.house.station(0, 0, 0, 0);
        p.house.tick(1);
        p.variable(2, 1);
        p.state(0, 1, 5, 5);
    }

    private static void ends() {
        Doc.says("Part VI", "end, or a line that there is not, ends it.");
        for (String last : new String[] {"end\n", "", "go 29\n", "go 2\n", "if bat > 0 go 29\n"}) {
            Probe p = Probe.begun("set v0 1\n" + last);
            p.house.tick(1);
            p.variable(0, 1);
            p.state(0, 0, -1, 0);
        }
        Probe between = Probe.begun("set v0 1\nend\nset v1 1\n");
        between.house.tick(9);
        between.variable(1, 0);
        for (String line : new String[] {"end\n", "go 29\n", "add v1 1\n", "kill 1\n", "mode 3\n", "until v2 = 0\n", "if v2 = 0 go 0\n", "add v2 1\n", "emit 2\n"}) {
            Probe p = new Probe();
            p.program(0, "add v0 1\n".repeat(30));
            p.program(1, line);
            p.program(2, "add v0 1\n".repeat(30));
            p.house.flip(2, 3);
            p.house.flip(2, 5);
            p.house.due(1, 1);
            p.house.tick(2);
            p.variable(0, 0);
            p.state(0, 0, -1, 0);
            p.state(1, 0, -1, 0);
            p.state(2, 0, -1, 0);
        }
        Probe behind = Probe.begun("add v0 1\n".repeat(30));
        behind.program(1, "set v1 1\n");
        behind.house.tick(5);
        behind.variable(1, 0);
        behind.state(0, 0, -1, 0);
    }

    private static void byAnother() {
        Doc.says("Part VI", "A PROGRAM that is begun or ended by another one in the same TICK is so at once (one with a less number begun: from the next TICK on).");
        for (int one = 0; one < 8; one++) {
            for (int other = 0; other < 8; other++) {
                if (one == other) {
                    continue;
                }
                Probe p = new Probe();
                p.program(one, "run " + other + "\n");
                p.program(other, "add v1 1\nwait 9\n");
                p.house.due(1, one);
                p.house.tick(1);
                p.variable(1, other > one ? 1 : 0);
                p.state(other, 1, other > one ? 2 : 0, other > one ? 9 : 0);
                p.house.tick(1);
                p.variable(1, 1);
                Probe q = new Probe();
                q.program(one, "kill " + other + "\n");
                q.program(other, "add v1 1\nwait 9\n");
                q.house.due(1, one);
                q.house.due(1, other);
                q.house.tick(1);
                q.variable(1, other > one ? 0 : 1);
                q.state(other, 0, -1, 0);
            }
        }
        Probe both = new Probe();
        both.program(0, "kill 3\nrun 3\n");
        both.program(3, "add v1 1\nwait 9\n");
        both.house.due(1, 3);
        both.house.due(4, 0);
        both.house.tick(3);
        both.state(3, 1, 2, 7);
        both.house.tick(1);
        both.variable(1, 2);
        both.state(3, 1, 2, 9);
    }

    private static void itself() {
        Doc.says("CORNERS", "A PROGRAM that runs itself goes on at its line 0 in the same TICK, its lines counted on; one without lines RUNS till its turn comes.");
        Probe p = Probe.begun("add v0 1\nrun 0\nset v1 1\n");
        p.house.tick(1);
        p.variable(0, 4);
        p.variable(1, 0);
        p.state(0, 1, 0, 0);
        Probe odd = Probe.begun("add v0 1\nadd v2 1\nrun 0\n");
        odd.house.tick(1);
        odd.variable(0, 3);
        odd.variable(2, 3);
        odd.state(0, 1, 2, 0);
        Probe kills = Probe.begun("add v0 1\nkill 0\nset v1 1\n");
        kills.house.tick(2);
        kills.variable(0, 1);
        kills.variable(1, 0);
        kills.state(0, 0, -1, 0);
        Probe none = new Probe();
        none.program(3, "run 2\nrun 4\n");
        none.house.due(1, 3);
        none.house.due(1, 5);
        none.house.tick(1);
        none.state(2, 1, 0, 0);
        none.state(4, 0, -1, 0);
        none.state(5, 0, -1, 0);
        none.house.tick(1);
        none.state(2, 0, -1, 0);
        Probe command = Probe.seen();
        command.sent("run 7");
        command.state(7, 1, 0, 0);
        command.house.tick(1);
        command.state(7, 0, -1, 0);
        Probe monitor = new Probe();
        monitor.monitor(0, 1, 7, "bat > 0");
        monitor.house.tick(1);
        monitor.state(7, 1, 0, 0);
        monitor.house.tick(1);
        monitor.state(7, 0, -1, 0);
    }

    private static void lostVariables() {
        Doc.says("Part VI", "A LOST V that is read (in a CONDITION, by add; by emit): an EVENT, the PROGRAM ends there; nothing of that line is done.");
        for (int v = 2; v < 8; v++) {
            for (String line : new String[] {"until v%d > -1", "if v%d > -1 go 2", "add v%d 1"}) {
                lost(v, String.format(line, v));
            }
        }
        for (int n = 0; n < 16; n++) {
            for (int v = 0; v < 5; v++) {
                Probe p = Probe.begun("emit " + n + "\nset v7 1\n");
                p.house.due(65, 0);
                p.house.tick(64);
                int events = p.house.ship(6);
                p.house.flip(v, 3);
                p.house.flip(v, 5);
                boolean reads = v <= n % 4 && v != 1;
                p.program(0, "set v7 0\nemit " + n + "\nset v7 1\n");
                p.house.tick(1);
                Probe.is("emit " + n + " with v" + v, p.house.ship(6) - events, reads || v == 1 ? 1 : 0);
                p.variable(7, reads ? 0 : 1);
                Probe.is("packets", p.house.ship(10), reads ? 1 : 2);
                p.state(0, 0, -1, 0);
            }
        }
        Probe count = Probe.sending(0);
        count.sent("set v3 1");
        count.house.flip(3, 3);
        count.house.flip(3, 5);
        count.program(0, "emit 3\n");
        count.house.due(1, 0);
        count.house.tick(1);
        count.sent("set v3 1");
        count.sent("emit 3");
        count.house.tick(1);
        count.house.receive();
        Probe.is("the next one", count.house.receive(), 1);
        count.house.packet(0);
        Probe.is("has COUNT 0: nothing of that line was done", count.house.out(1), 0);
        Probe set = Probe.begun("set v7 5\nset v6 1\n");
        set.house.flip(7, 3);
        set.house.flip(7, 5);
        set.house.tick(1);
        Probe.is("set reads nothing", set.house.ship(6), 0);
        set.variable(7, 5);
        set.variable(6, 1);
    }

    private static void lost(int v, String line) {
        Probe p = Probe.begun("set v0 1\n" + line + "\nset v0 2\nset v0 3\n");
        p.house.flip(v, 3);
        p.house.flip(v, 5);
        int bits = p.house.word(v, 0);
        p.house.tick(1);
        Probe.is("an EVENT by " + line, p.house.ship(6), 1);
        p.variable(0, 1);
        p.state(0, 0, -1, 0);
        Probe.is("nothing is done by " + line, p.house.word(v, 0), bits);
        Probe one = Probe.begun("set v0 1\n" + line + "\nset v0 3\n");
        one.house.flip(v, 3);
        one.house.tick(1);
        Probe.is("one wrong bit is no EVENT by " + line, one.house.ship(6), 0);
        one.variable(0, 3);
    }

    private static void dues() {
        Doc.says("Promise 14", "NONE if there is no such PROGRAM, or the second is not above THE CLOCK");
        Twins.beyond("PROGRAM", 0, 7, (house, x) -> house.due(500, x));
        for (int second : new int[] {9, 8, 0, -1, Integer.MIN_VALUE}) {
            Twins.refused("second " + second + " at 9", Twins::busy, -1, house -> house.due(second, 0));
        }
        Probe.is("one above THE CLOCK", Twins.busy().house.due(10, 7), 3);
        Probe.is("the greatest", new MissionHouse().due(Integer.MAX_VALUE, 0), 1);
        Probe.is("not above 0", new MissionHouse().due(0, 0), -1);
        Doc.says("Promise 14", "A DUE START: how many there are.");
        for (int k = 0; k < 8; k++) {
            Probe p = new Probe();
            p.program(k, "set v" + k + " 1\n");
            Probe.is("due", p.house.due(3, k), 1);
            p.house.tick(2);
            p.variable(k, 0);
            Probe.is("left", p.house.ship(13), 1);
            p.house.tick(1);
            p.variable(k, 1);
            Probe.is("left", p.house.ship(13), 0);
        }
    }

    private static void duesFull() {
        Doc.says("Part VI", "DUE STARTS: at most 10, each a CLOCK and a PROGRAM: at the TICK whose CLOCK it is, the PROGRAM is run (in the order in which they were told).");
        Probe p = new Probe();
        for (int k = 0; k < 8; k++) {
            p.program(k, "add v" + k + " 1\n");
        }
        for (int i = 1; i <= 10; i++) {
            Probe.is("the " + i + "th", p.house.due(i == 10 ? 2 : 12 - i, i % 8), i);
        }
        Doc.says("Promise 14", "FULL.");
        Probe.is("an eleventh", p.house.due(50, 0), -4);
        Probe.is("not above THE CLOCK: NONE is told first", p.house.due(0, 0), -1);
        Probe.is("no such PROGRAM: NONE is told first", p.house.due(50, 8), -1);
        Probe.is("ten", p.house.ship(13), 10);
        p.house.tick(2);
        Probe.is("the tenth was first", p.house.ship(13), 9);
        p.variable(2, 1);
        Probe.is("a place is free", p.house.due(5, 6), 10);
        Probe.is("and no more", p.house.due(5, 6), -4);
        int[] ran = {1, 2, 2, 1, 1, 1, 2, 1};
        p.house.tick(9);
        for (int v = 0; v < 8; v++) {
            p.variable(v, ran[v]);
        }
        Probe.is("none is left", p.house.ship(13), 0);
        Twins.refused("an eleventh", Twins::full, -4, house -> house.due(100, 3));
        Twins.refused("not above THE CLOCK", Twins::full, -1, house -> house.due(9, 3));
        Probe same = new Probe();
        same.program(2, "add v2 1\nwait 3\nadd v2 16\n");
        for (int i = 0; i < 10; i++) {
            same.house.due(1, 2);
        }
        same.house.tick(1);
        same.variable(2, 1);
        Probe.is("all at once", same.house.ship(13), 0);
        same.house.due(3, 2);
        same.house.tick(2);
        same.variable(2, 2);
        same.state(2, 1, 2, 3);
    }

    private static void runs() {
        Doc.says("Promise 21", "NONE if there is none such.");
        for (int what = 0; what < 4; what++) {
            int w = what;
            Twins.beyond("PROGRAM", 0, 7, (house, x) -> house.runs(x, w));
        }
        Twins.beyond("what", 0, 3, (house, x) -> house.runs(0, x));
        Twins.beyond("what", 0, 3, (house, x) -> house.runs(7, x));
        Doc.says("Promise 21", "Of a PROGRAM, what 0: lines, 1: whether it RUNS, 2: the line that is next (NONE if it does not run), 3: TICKS that it waits yet.");
        for (int k = 0; k < 8; k++) {
            Probe p = new Probe();
            p.program(k, "set v0 1\nwait 2\nuntil bat < 0\n");
            p.house.due(1, k);
            Probe.is("lines", p.house.runs(k, 0), 3);
            p.state(k, 0, -1, 0);
            p.house.tick(1);
            p.state(k, 1, 2, 2);
            p.house.tick(1);
            p.state(k, 1, 2, 1);
            p.house.tick(1);
            p.state(k, 1, 2, 0);
            Probe.is("lines", p.house.runs(k, 0), 3);
        }
    }
}
