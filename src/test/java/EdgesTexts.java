/** Part I, and promises 1 to 4: the tape, the out, and the places at which texts are WRONG. */
final class EdgesTexts {
    private static final String VERBS = "on off wait until if go set add emit mode run kill end";
    private static final String COMMANDS = "on off set add emit mode run kill line ready";
    private static final String THINGS = "bat sun used mode rec fix ev turn seen v0 v1 v2 v3 v4 v5 v6 v7";

    /** Each place of a NUMBER: who reads it, the text ahead of it, the one behind it, its range. */
    private static final String[][] NUMBERS = {
        {"program", "on ", "\n", "0", "7"}, {"program", "off ", "\n", "0", "7"}, {"program", "wait ", "\n", "1", "9999"},
        {"program", "if v0 = 0 go ", "\n", "0", "29"}, {"program", "go ", "\n", "0", "29"}, {"program", "set v0 ", "\n", "0", "255"},
        {"program", "add v7 ", "\n", "0", "255"}, {"program", "emit ", "\n", "0", "15"}, {"program", "mode ", "\n", "0", "3"},
        {"program", "run ", "\n", "0", "7"}, {"program", "kill ", "\n", "0", "7"}, {"program", "end\non ", "\nend\n", "0", "7"},
        {"command", "on ", "", "0", "7"}, {"command", "off ", "", "0", "7"}, {"command", "set v7 ", "", "0", "255"},
        {"command", "add v0 ", "", "0", "255"}, {"command", "emit ", "", "0", "15"}, {"command", "mode ", "", "0", "3"},
        {"command", "run ", "", "0", "7"}, {"command", "kill ", "", "0", "7"}, {"command", "ready ", "", "0", "7"},
        {"command", "line ", " 0 end", "0", "7"}, {"command", "line 0 ", " end", "0", "29"}, {"command", "line 7 29 wait ", "", "1", "9999"},
        {"command", "line 7 29 go ", "", "0", "29"}, {"command", "line 7 29 if ev < 3 go ", "", "0", "29"}};

    /** Each place of an INT. */
    private static final String[][] INTS = {
        {"program", "until bat = ", "\n"}, {"program", "if ev < ", " go 0\n"}, {"monitor", "v7 > ", ""}, {"command", "line 7 29 until seen = ", ""}};

    static void all() {
        newObject();
        tapeRoom();
        feedOrder();
        tapeEnd();
        theOut();
        bytesOfTexts();
        numbers();
        ints();
        words();
        tooShort();
        lineTooMany();
        emptyBehind();
        leftByRefusals();
        wrongChangesNothing();
    }

    private static int read(String kind, String text) {
        Probe p = new Probe();
        switch (kind) {
            case "program": return p.program(7, text);
            case "monitor": return p.monitor(7, 99, 8, text);
            case "command": return p.command(text);
            default: return p.date(text);
        }
    }

    private static void right(String kind, String text) {
        int due = kind.equals("command") ? 0 : kind.equals("program") ? (int) text.chars().filter(c -> c == '\n').count() : 1;
        Probe.is(kind + " '" + text + "'", read(kind, text), due);
    }

    private static void wrong(String kind, String text, int place) {
        Probe.is(kind + " '" + text + "'", read(kind, text), -1000 - place);
    }

    private static void newObject() {
        Doc.says("Promise 1", "makes an object in the state that the terms give.");
        Probe p = new Probe();
        int[] ship = {0, 0, 0, 1000, 0, 0, 0, 0, 0, 0, 0, 0, 0, 0, 0};
        for (int what = 0; what < 15; what++) {
            Probe.is("ship " + what, p.house.ship(what), ship[what]);
        }
        for (int what = 0; what < 6; what++) {
            Probe.is("ground " + what, p.house.ground(what), 0);
        }
        for (int i = 0; i < 8; i++) {
            Probe.is("load " + i, p.house.served(i, 0) + p.house.served(i, 1), 0);
            Probe.is("lines " + i, p.house.runs(i, 0), 0);
            p.state(i, 0, -1, 0);
        }
        Probe.is("the tape is empty", p.tapeSize(), 0);
        Probe.is("no out", p.house.out(0), -1);
        Probe.is("no frame", p.house.noise(0, 0) + p.house.lose() + p.house.receive(), -3);
        Probe.is("no packet", p.house.packet(0), -1);
        Probe.is("no pass", p.house.clear(), 0);
        Probe.is("no command", p.house.send(0), -1);
        Probe.is("no leap", p.house.leap(2000, 6), 1);
        Probe.is("no due start", p.house.due(1, 0), 1);
        for (int field = 0; field < 288; field++) {
            Probe.is("field " + field, p.house.bar(field / 12, field % 12, false), 0);
        }
        Probe q = Probe.begun("mode 3\nset v1 1\n");
        q.house.tick(1);
        Probe.is("no program stays in a mode at first", q.house.word(1, 1), 0);
        q.house.tick(400);
        Probe.is("no monitor is set", q.house.ship(6), 0);
    }

    private static void tapeRoom() {
        Doc.says("Promise 2", "FULL if there would be more than 1,600.");
        for (int size : new int[] {1600, 1599, 1581}) {
            Probe p = new Probe().tape("2000-01-01T00:00:07");
            for (int i = 0; i < 79; i++) {
                p.house.feed(0x78787878, 0, 0, 0, 0);
            }
            p.house.end(1580 + 19);
            p.house.end(1580);
            Probe.is("1,580 and 20", p.house.feed(1, 2, 3, 4, 5), 1600);
            p.house.end(size);
            Probe.is(size + " and 20", p.house.feed(1, 2, 3, 4, 5), -4);
            Probe.is("none came", p.house.end(size + 1), -1);
            Probe.is("none went", p.house.end(size), size);
            p.house.end(19);
            Probe.is("they are as they were", p.house.date(), 7);
        }
        Twins.refused("feed", () -> {
            Probe p = Twins.busy();
            for (int i = 0; i < 79; i++) {
                p.house.feed(1, 2, 3, 4, 5);
            }
            return p;
        }, MissionHouse.FULL, house -> house.feed(9, 9, 9, 9, 9));
        Doc.says("Part I", "THE TAPE has bytes, at most 1,600");
        wrong("program", "end\n".repeat(400), 120);
        wrong("program", "wait " + "1".repeat(1595), 14);
        wrong("command", "on 0" + " ".repeat(1596), 4);
        wrong("date", "2".repeat(1600), 0);
        wrong("monitor", "b".repeat(1600), 0);
    }

    private static void feedOrder() {
        Doc.says("Promise 2", "Twenty bytes come behind those on THE TAPE, the highest of each int first: how many there are.");
        String text = "2000-01-01T00:00:00 ";
        for (int at = 0; at < 20; at++) {
            int[] four = new int[5];
            for (int i = 0; i < 20; i++) {
                four[i / 4] |= (i == at ? 0xF1 : text.charAt(i)) << 24 - i % 4 * 8;
            }
            MissionHouse house = new MissionHouse();
            Probe.is("the first twenty", house.feed(four[0], four[1], four[2], four[3], four[4]), 20);
            Probe.is("a wrong byte at " + at, house.date(), -1000 - at);
        }
        MissionHouse house = new MissionHouse();
        house.feed(0x6f6e2037, 0, 0, 0, 0);
        house.end(4);
        Probe.is("behind those on the tape", house.feed(0x0a656e64, 0x0a000000, 0, 0, 0), 24);
        house.end(9);
        Probe.is("two lines", house.program(0), 2);
        Probe.is("from none on again", house.feed(0, 0, 0, 0, 0), 20);
    }

    private static void tapeEnd() {
        Doc.says("Promise 3", "THE TAPE has its first n bytes alone: n; NONE if there are not so many, or n is below 0.");
        Probe p = new Probe();
        Probe.is("none of none", p.house.end(0), 0);
        Probe.is("one of none", p.house.end(1), -1);
        Probe.is("below 0", p.house.end(-1), -1);
        p.tape("2000-01-01T00:00:31");
        Probe.is("one too many", p.house.end(20), -1);
        Probe.is("all", p.house.end(19), 19);
        Probe.is("below 0", p.house.end(-1), -1);
        Probe.is("still all", p.tapeSize(), 19);
        Probe.is("one less", p.house.end(18), 18);
        Probe.is("it does not come again", p.house.end(19), -1);
        Probe.is("the first 18", p.house.date(), -1018);
        p.tape("2000-01-01T00:00:31");
        Probe.is("none", p.house.end(0), 0);
        Probe.is("nothing", p.house.date(), -1000);
        Twins.refused("end(-1)", Twins::busy, -1, house -> house.end(-1));
        Twins.refused("end(29)", Twins::busy, -1, house -> house.end(29));
        Twins.refused("the least", Twins::busy, -1, house -> house.end(Integer.MIN_VALUE));
        Twins.refused("the greatest", Twins::busy, -1, house -> house.end(Integer.MAX_VALUE));
        Twins.refused("as many as there are", Twins::busy, 28, house -> house.end(28));
    }

    private static void theOut() {
        Doc.says("Promise 4", "Byte i of THE OUT (what was written latest; at first nothing); NONE if there is none such.");
        Probe p = new Probe();
        Probe.is("at first nothing", p.house.out(0), -1);
        p.house.written(0);
        Probe.is("the first", p.house.out(0), '2');
        Probe.is("the last", p.house.out(18), '0');
        Probe.is("behind the last", p.house.out(19), -1);
        Probe.is("ahead of the first", p.house.out(-1), -1);
        Probe.is("the greatest", p.house.out(Integer.MAX_VALUE), -1);
        Probe.is("the least", p.house.out(Integer.MIN_VALUE), -1);
        p.house.way(0, 0, 1, 0);
        Probe.is("the latest", p.house.out(0), 'r');
        Probe.is("alone", p.house.out(1), -1);
        p.house.way(0, 0, 0, 0);
        Probe.is("no turn was written latest", p.house.out(0), -1);
    }

    private static void bytesOfTexts() {
        Doc.says("Part I", "of texts 10 and 32 .. 126.");
        for (int b = 0; b < 256; b++) {
            String c = String.valueOf((char) b);
            if (b != 10) {
                wrong("program", "on 0" + c, 4);
            }
            wrong("program", "on 0\n" + c, 5);
            wrong("command", "on 0" + c, 4);
            wrong("date", "2000-01-01T00:00:00" + c, 19);
            if (b < '0' || b > '9') {
                wrong("monitor", "ev = 1" + c, 6);
            }
            wrong("program", c, 0);
            wrong("command", c, 0);
            wrong("monitor", c, 0);
        }
    }

    private static void numbers() {
        Doc.says("Part I", "A NUMBER: 1 to 9 digits, no 0 ahead of others");
        for (String[] n : NUMBERS) {
            int at = n[1].length();
            int low = Integer.parseInt(n[3]);
            int high = Integer.parseInt(n[4]);
            right(n[0], n[1] + low + n[2]);
            right(n[0], n[1] + high + n[2]);
            wrong(n[0], n[1] + n[2], at);
            wrong(n[0], n[1], at);
            wrong(n[0], n[1] + "0" + high + n[2], at + 1);
            wrong(n[0], n[1] + "00" + n[2], at + 1);
            for (String not : new String[] {"-1", "+1", "x1", " 1", "-0"}) {
                wrong(n[0], n[1] + not + n[2], at);
            }
            wrong(n[0], n[1] + high + "x" + n[2], at + n[4].length());
            wrong(n[0], n[1] + high + "-" + n[2], at + n[4].length());
        }
        Doc.says("Part I", "but a NUMBER or INT out of its range, or a WORD that is none of those told, at its first byte"
            + " (a NUMBER of ten digits at the tenth, a digit behind a 0 at itself)");
        for (String[] n : NUMBERS) {
            int at = n[1].length();
            wrong(n[0], n[1] + (Integer.parseInt(n[4]) + 1) + n[2], at);
            if (n[3].equals("1")) {
                wrong(n[0], n[1] + "0" + n[2], at);
            }
            wrong(n[0], n[1] + (Integer.parseInt(n[4]) + 1) + "x" + n[2], at);
            wrong(n[0], n[1] + "999999999" + n[2], at);
            wrong(n[0], n[1] + "1000000000" + n[2], at + 9);
            wrong(n[0], n[1] + "4294967296" + n[2], at + 9);
            wrong(n[0], n[1] + "10000000000000000000" + n[2], at + 9);
            wrong(n[0], n[1] + "0000000000" + n[2], at + 1);
        }
    }

    private static void ints() {
        Doc.says("Part I", "an INT: a NUMBER, perhaps with a - right ahead (not of 0).");
        for (String[] n : INTS) {
            int at = n[1].length();
            for (String value : new String[] {"0", "1", "-1", "99999", "-99999"}) {
                right(n[0], n[1] + value + n[2]);
            }
            for (String value : new String[] {"-", "--1", "- 1", "-x"}) {
                wrong(n[0], n[1] + value + n[2], at + 1);
            }
            wrong(n[0], n[1] + "+1" + n[2], at);
            wrong(n[0], n[1] + "1-" + n[2], at + 1);
            wrong(n[0], n[1] + "-" + "1234567890" + n[2], at + 10);
            wrong(n[0], n[1] + "1234567890" + n[2], at + 9);
            wrong(n[0], n[1] + "00" + n[2], at + 1);
            wrong(n[0], n[1] + "01" + n[2], at + 1);
        }
        Doc.says("CORNERS", "-0 is WRONG at the 0.");
        for (String[] n : INTS) {
            for (String value : new String[] {"-0", "-00", "-01", "-0000000000"}) {
                wrong(n[0], n[1] + value + n[2], n[1].length() + 1);
            }
        }
        Doc.says("Part VI", "CONDITION: a thing, a blank, = or < or >, a blank, an INT -99999 .. 99999.");
        for (String[] n : INTS) {
            for (String value : new String[] {"100000", "-100000", "999999999", "-999999999"}) {
                wrong(n[0], n[1] + value + n[2], n[1].length());
            }
        }
        for (String not : new String[] {"-0", "-1", "00", "x"}) {
            wrong("monitor", not + " = 1", 0);
            wrong("monitor", "rec" + not + " = 1", not.startsWith("-") ? 3 : 0);
            wrong("monitor", "rec " + not + " 1", 4);
            wrong("monitor", "rec =" + not, 5);
        }
        for (int b = 0; b < 256; b++) {
            String text = "rec " + (char) b + " 1";
            if (b == '=' || b == '<' || b == '>') {
                right("monitor", text);
            } else {
                wrong("monitor", text, 4);
            }
        }
    }

    private static String restOf(String verb) {
        switch (verb) {
            case "wait": return " 1";
            case "until": return " ev = 1";
            case "if": return " ev = 1 go 1";
            case "set":
            case "add": return " v0 1";
            case "line": return " 0 0 end";
            case "end": return "";
            default: return " 0";
        }
    }

    private static void words() {
        Doc.says("Part I", "A WORD: all the small letters and digits that stand there, the first a letter.");
        for (String verb : VERBS.split(" ")) {
            word("program", "", verb, restOf(verb) + "\n");
            word("program", "on 0\n", verb, restOf(verb) + "\n");
            word("command", "line 0 0 ", verb, restOf(verb));
        }
        for (String verb : COMMANDS.split(" ")) {
            word("command", "", verb, restOf(verb));
        }
        for (String thing : THINGS.split(" ")) {
            word("monitor", "", thing, " = 1");
            word("program", "if ", thing, " = 1 go 1\n");
        }
        for (int v = 0; v < 8; v++) {
            word("program", "set ", "v" + v, " 1\n");
            word("command", "add ", "v" + v, " 1");
        }
        word("program", "if ev = 1 ", "go", " 1\n");
        Doc.says("Part I", "or a WORD that is none of those told, at its first byte");
        for (String word : "wait until if go end bat v0 ons 0".split(" ")) {
            wrong("command", word + " 1", 0);
        }
        for (String word : "line ready bat v0 load nothing".split(" ")) {
            wrong("program", "end\n" + word + " 1\n", 4);
            wrong("command", "line 0 0 " + word + " 1", 9);
        }
        for (String word : "on go v8 v9 v10 V0 clock".split(" ")) {
            wrong("monitor", word + " = 1", 0);
            wrong("program", "until " + word + " = 1\n", 6);
            wrong("program", "set " + word + " 1\n", 4);
        }
        wrong("program", "set bat 1\n", 4);
        wrong("program", "if ev = 1 end\n", 10);
    }

    /** A WORD as it should be, with each byte behind it and ahead of it, and cut short. */
    private static void word(String kind, String ahead, String word, String behind) {
        int at = ahead.length();
        right(kind, ahead + word + behind);
        for (int b = 0; b < 256; b++) {
            boolean isPart = b >= 'a' && b <= 'z' || b >= '0' && b <= '9';
            boolean goesOn = b == (word.equals("end") ? kind.equals("program") ? '\n' : -1 : ' ');
            wrong(kind, ahead + word + (char) b + behind, isPart ? at : at + word.length() + (goesOn ? 1 : 0));
            wrong(kind, ahead + (char) b + word + behind, at);
        }
        for (int i = 0; i < word.length(); i++) {
            String begun = ahead + word.substring(0, i);
            wrong(kind, begun + behind, at);
            wrong(kind, begun + (char) (word.charAt(i) ^ 32) + word.substring(i + 1) + behind, at);
            if (i > 0) {
                wrong(kind, begun, at);
            }
        }
    }

    private static void tooShort() {
        Doc.says("Part I", "(its length, if it is too short)");
        cut("program", "if v0 < -10 go 29\n", 0, 0, 2, 3, 3, 5, 6, 7, 8, 9, 10, 11, 12, 12, 14, 15, 16, 17);
        cut("program", "add v7 255\n", 0, 0, 0, 3, 4, 4, 6, 7, 8, 9, 10);
        cut("command", "line 7 29 end", 0, 0, 0, 0, 4, 5, 6, 7, 8, 9, 10, 10, 10);
        cut("command", "ready 7", 0, 0, 0, 0, 0, 5, 6);
        cut("date", "2000-01-01T00:00:00", 0, 1, 2, 3, 4, 5, 6, 7, 8, 9, 10, 11, 12, 13, 14, 15, 16, 17, 18);
        wrong("monitor", "ev", 2);
        wrong("monitor", "ev ", 3);
        wrong("monitor", "ev <", 4);
        wrong("monitor", "ev < ", 5);
        wrong("monitor", "ev < -", 6);
        wrong("program", "on 0\non 0", 9);
    }

    private static void cut(String kind, String text, int... places) {
        for (int size = 0; size < text.length(); size++) {
            wrong(kind, text.substring(0, size), places[size]);
        }
    }

    private static void lineTooMany() {
        Doc.says("Part I", "a line too many likewise.");
        right("program", "end\n".repeat(30));
        wrong("program", "end\n".repeat(31), 120);
        wrong("program", "end\n".repeat(30) + "e", 120);
        wrong("program", "end\n".repeat(30) + "\n", 120);
        wrong("program", "end\n".repeat(30) + "on 9\n", 120);
        wrong("program", "end\n".repeat(29) + "on 9\n" + "end\n", 119);
    }

    private static void emptyBehind() {
        Doc.says("Part I", "Behind a text's call the tape is empty, whatever it answers");
        for (String text : new String[] {"", "2000-01-01T00:00:00", "2000-01-01T00:00:0x", "end\n", "end\nx", "ev = 1", "ev = x", "on 0", "on 8"}) {
            for (int call = 0; call < 4; call++) {
                Probe p = new Probe().tape(text);
                int answer = call == 0 ? p.house.date() : call == 1 ? p.house.program(0) : call == 2 ? p.house.monitor(0, 1, 0) : p.house.command();
                Probe.is("'" + text + "' " + call + " " + answer, p.tapeSize(), 0);
                Probe.is("nothing is read again", p.house.date(), -1000);
            }
        }
    }

    private static void leftByRefusals() {
        Doc.says("Part I", "(NONE, STATE and FULL told ahead of it leave it).");
        Probe p = new Probe().tape("end\n");
        for (int k : new int[] {-1, 8}) {
            Probe.is("program", p.house.program(k), -1);
            Probe.is("monitor", p.house.monitor(k, 1, 0), -1);
        }
        Probe.is("the program", p.house.program(7), 1);
        p.tape("ev = 1");
        for (int n : new int[] {0, 100}) {
            Probe.is("monitor", p.house.monitor(0, n, 0), -1);
        }
        for (int act : new int[] {-1, 9}) {
            Probe.is("monitor", p.house.monitor(0, 1, act), -1);
        }
        Probe.is("the monitor", p.house.monitor(0, 1, 8), 1);
        Probe full = Probe.seen();
        for (int i = 0; i < 8; i++) {
            full.command("on 0");
        }
        full.tape("on 6");
        Probe.is("command", full.house.command(), -4);
        full.house.send(0);
        full.house.tick(1);
        full.house.receive();
        Probe.is("the command", full.house.command(), 8);
        Probe.is("read", full.tapeSize(), 0);
    }

    private static void wrongChangesNothing() {
        Doc.says("Part I", "WRONG texts change nothing.");
        for (int k = 0; k < 8; k++) {
            int which = k;
            Twins.wrong("program " + k, "end\nset v0 256\n", 11, house -> house.program(which));
            Twins.wrong("monitor " + k, "ev > 0 ", 6, house -> house.monitor(which, 1, 8));
        }
        Twins.wrong("program", "", 0, house -> house.program(0));
        Twins.wrong("program", "end\n".repeat(31), 120, house -> house.program(0));
        Twins.wrong("monitor", "ev", 2, house -> house.monitor(0, 1, 8));
        Twins.wrong("command", "on 0\n", 4, house -> house.command());
        Twins.wrong("command", "line 5 1 on 8", 12, house -> house.command());
        Twins.wrong("command", "", 0, house -> house.command());
        Twins.wrong("date", "2000-02-30T00:00:00", 8, house -> house.date());
    }
}
