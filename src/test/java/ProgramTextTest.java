/** Promises 13, 16 and 27, their texts: what is right, and where a WRONG one is wrong. */
final class ProgramTextTest {
    private static final Probe P = new Probe();

    public static void main(String[] args) {
        rightLines();
        wrongWords();
        wrongNumbers();
        conditions();
        wholePrograms();
        wrongChangesNothing();
        tapes();
        commands();
        Probe.finish("ProgramTextTest");
    }

    private static void is(String text, int due) {
        Probe.is("program " + text.replace("\n", "/"), P.program(0, text), due);
    }

    private static void rightLines() {
        String[] lines = {"on 0", "on 7", "off 0", "off 7", "wait 1", "wait 9999", "until bat = 0", "if v7 < -99999 go 29",
            "if ev > 99999 go 0", "go 0", "go 29", "set v0 0", "set v7 255", "add v0 0", "add v7 255", "emit 0", "emit 15",
            "mode 0", "mode 3", "run 0", "run 7", "kill 0", "kill 7", "end"};
        StringBuilder all = new StringBuilder();
        for (String line : lines) {
            is(line + "\n", 1);
            is(line, -1000 - line.length());
            is(line + " \n", -1000 - line.length());
            is(line + "\n\n", -1001 - line.length());
            all.append(line).append('\n');
        }
        is(all.toString(), lines.length);
        for (String thing : "bat sun used mode rec fix ev turn seen v0 v1 v2 v3 v4 v5 v6 v7".split(" ")) {
            for (String sign : "= < >".split(" ")) {
                is("until " + thing + " " + sign + " 1\n", 1);
            }
        }
    }

    private static void wrongWords() {
        is("", -1000);
        is("\n", -1000);
        is(" on 0\n", -1000);
        is("On 0\n", -1000);
        is("o", -1000);
        is("onn 0\n", -1000);
        is("on0\n", -1000);
        is("line 0 0 end\n", -1000);
        is("ready 0\n", -1000);
        is("on", -1002);
        is("on\n", -1002);
        is("on\t0\n", -1002);
        is("on  0\n", -1003);
        is("end 0\n", -1003);
        is("ends\n", -1000);
        is("endz\n", -1000);
        is("enda\n", -1000);
        is("end9\n", -1000);
        is("in 0\n", -1000);
        is("xet v0 0\n", -1000);
        is("set w0 0\n", -1004);
        is("set v8 0\n", -1004);
        is("set v 0\n", -1004);
        is("set v00 0\n", -1004);
        is("set 0 0\n", -1004);
        is("set bat 0\n", -1004);
        is("set V0 0\n", -1004);
        is("set v0", -1006);
        is("set v0 ", -1007);
        is("add v1x 0\n", -1004);
        is("if bat = 1 end\n", -1011);
        is("if bat = 1 goo 0\n", -1011);
        is("if bat = 1 go0\n", -1011);
        is("if bat = 1\n", -1010);
        is("if bat = 1 go\n", -1013);
        is("if bat = 1 g", -1011);
        is("end\nend", -1007);
        is("end\nnothing\n", -1004);
        is("end\nend\u0000", -1007);
        is("\u00ff", -1000);
    }

    private static void wrongNumbers() {
        is("on 8\n", -1003);
        is("off 10\n", -1004);
        is("on -1\n", -1003);
        is("on x\n", -1003);
        is("on 00\n", -1004);
        is("on 01\n", -1004);
        is("on 0x\n", -1004);
        is("on 8x\n", -1003);
        is("wait 0\n", -1005);
        is("wait 00\n", -1006);
        is("wait 10000\n", -1005);
        is("wait 999999999\n", -1005);
        is("wait 1234567890\n", -1014);
        is("wait 12345678901\n", -1014);
        is("wait 1234567890", -1014);
        is("wait", -1004);
        is("wait ", -1005);
        is("go 30\n", -1003);
        is("if v0 = 0 go 30\n", -1013);
        is("set v0 256\n", -1007);
        is("add v0 256\n", -1007);
        is("emit 16\n", -1005);
        is("mode 4\n", -1005);
        is("run 8\n", -1004);
        is("kill 8\n", -1005);
        is("kill 99999999999\n", -1014);
        is("kill 0999999999\n", -1006);
    }

    private static void conditions() {
        is("until v8 = 1\n", -1006);
        is("until battery = 1\n", -1006);
        is("until = 1\n", -1006);
        is("until bat 1\n", -1010);
        is("until bat  1\n", -1010);
        is("until bat ? 1\n", -1010);
        is("until bat= 1\n", -1009);
        is("until bat == 1\n", -1011);
        is("until bat =1\n", -1011);
        is("until bat = \n", -1012);
        is("until bat = -\n", -1013);
        is("until bat = -0\n", -1013);
        is("until bat = -01\n", -1013);
        is("until bat = --1\n", -1013);
        is("until bat = +1\n", -1012);
        is("until bat = 01\n", -1013);
        is("until bat = 0\n", 1);
        is("until bat = -1\n", 1);
        is("until bat = -99999\n", 1);
        is("until bat = -100000\n", -1012);
        is("until bat = 100000\n", -1012);
        is("until bat = -123456789\n", -1012);
        is("until bat = -1234567890\n", -1022);
        is("until bat = 1234567890\n", -1021);
        is("until bat = 1x\n", -1013);
        is("until bat", -1009);
        Probe.is("monitor", P.monitor(0, 1, 8, "bat = 1"), 1);
        Probe.is("monitor with a line end", P.monitor(0, 1, 8, "bat = 1\n"), -1007);
        Probe.is("monitor with a go", P.monitor(0, 1, 8, "bat = 1 go 1"), -1007);
        Probe.is("monitor too short", P.monitor(0, 1, 8, "bat ="), -1005);
        Probe.is("monitor of no thing", P.monitor(0, 1, 8, "on = 1"), -1000);
    }

    private static void wholePrograms() {
        String thirty = "end\n".repeat(30);
        is(thirty, 30);
        is(thirty + "end\n", -1120);
        is(thirty + "e", -1120);
        is(thirty + "\n", -1120);
        is("end\n".repeat(29), 29);
        P.program(0, thirty);
        P.program(1, "end\n");
        Probe.is("lines of 0 alone", P.house.runs(0, 0), 30);
        String wide = "if used > -99999 go 29\n".repeat(30);
        is(wide, 30);
        is("end\n".repeat(28) + "on 9\n", -1115);
    }

    private static void wrongChangesNothing() {
        Probe p = new Probe();
        p.program(2, "wait 5\nend\n");
        p.house.due(1, 2);
        p.house.tick(1);
        Probe.is("wrong", p.program(2, "end\non 9\n"), -1007);
        Probe.is("lines", p.house.runs(2, 0), 2);
        Probe.is("runs on", p.house.runs(2, 1), 1);
        Probe.is("waits on", p.house.runs(2, 3), 5);
        Probe.is("right", p.program(2, "end\n"), 1);
        Probe.is("ends", p.house.runs(2, 1), 0);
        Probe.is("next", p.house.runs(2, 2), -1);
        Probe.is("waits no more", p.house.runs(2, 3), 0);
        Probe.is("lines", p.house.runs(2, 0), 1);
    }

    private static void tapes() {
        Probe p = new Probe();
        p.tape("end\n");
        Probe.is("program -1", p.house.program(-1), -1);
        Probe.is("program 8", p.house.program(8), -1);
        Probe.is("NONE leaves the tape", p.tapeSize(), 4);
        Probe.is("program 7", p.house.program(7), 1);
        Probe.is("empty behind it", p.tapeSize(), 0);
        Probe.is("wrong", p.program(7, "x"), -1000);
        Probe.is("empty behind a wrong one", p.tapeSize(), 0);
        p.tape("bat = 1");
        Probe.is("monitor -1", p.house.monitor(-1, 1, 0), -1);
        Probe.is("monitor 8", p.house.monitor(8, 1, 0), -1);
        Probe.is("0 ticks", p.house.monitor(0, 0, 0), -1);
        Probe.is("100 ticks", p.house.monitor(0, 100, 0), -1);
        Probe.is("act -1", p.house.monitor(0, 1, -1), -1);
        Probe.is("act 9", p.house.monitor(0, 1, 9), -1);
        Probe.is("NONE leaves the tape", p.tapeSize(), 7);
        Probe.is("the greatest", p.house.monitor(7, 99, 8), 1);
        Probe.is("empty behind it", p.tapeSize(), 0);
        Probe.is("nothing on the tape", p.house.monitor(0, 1, 0), 1);
    }

    private static void command(String text, int due) {
        Probe p = new Probe();
        Probe.is("command " + text, p.command(text), due);
        Probe.is("the tape is empty behind " + text, p.tapeSize(), 0);
        Probe.is("kept", p.house.ground(3), due == 0 ? 1 : 0);
        Probe.is("next number", p.house.ground(5), due == 0 ? 1 : 0);
    }

    private static void commands() {
        for (String right : new String[] {"on 7", "off 0", "set v0 255", "add v7 1", "emit 15", "mode 3", "run 7", "kill 0", "ready 7",
            "line 7 29 end", "line 0 0 wait 9999", "line 1 2 if bat = 1 go 3", "line 3 4 until v0 < 1", "line 0 0 go 29", "line 0 10 on 1"}) {
            command(right, 0);
            command(right + "\n", -1000 - right.length());
            command(right + " ", -1000 - right.length());
        }
        for (String not : new String[] {"until bat = 1", "wait 1", "if bat = 1 go 1", "go 1", "end", "", "lin", "readyy 1", "line0 0 end"}) {
            command(not, -1000);
        }
        command("ready", -1005);
        command("ready 8", -1006);
        command("line", -1004);
        command("line 8 0 end", -1005);
        command("line 0 30 end", -1007);
        command("line 0 00 end", -1008);
        command("line 0 0", -1008);
        command("line 0 0 ", -1009);
        command("line 0 0 line 0 0 end", -1009);
        command("line 0 0 ready 0", -1009);
        command("line 0 0 on 8", -1012);
        command("line 0  0 end", -1007);
    }
}
