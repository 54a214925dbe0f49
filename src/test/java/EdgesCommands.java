/** Part VIII, and promises 27 and 28: command, send. */
final class EdgesCommands {
    static void all() {
        texts();
        told();
        byteTen();
        full();
        numbersAround();
        sent();
        refusedSends();
        whenSeen();
        inOrder();
        reports();
        reportsAround();
        sentAgain();
        done();
        lostVariables();
        drafts();
        ready();
        readyOfNothing();
    }

    private static void texts() {
        Doc.says("Part VIII", "A command is a line of Part VI (without its byte 10), but no until, wait, if, go, end; or line K N and a blank and a line of Part VI"
            + " (its line N, 0 .. 29, of the DRAFT of PROGRAM K, 0 .. 7)");
        for (String text : new String[] {"until bat = 1", "wait 1", "if bat = 1 go 1", "go 1", "end"}) {
            Probe.is(text, new Probe().command(text), -1000);
            Probe.is("line 0 0 " + text, new Probe().command("line 0 0 " + text), 0);
            Probe.is("line 7 29 " + text, new Probe().command("line 7 29 " + text), 0);
            Probe.is("line 8 29 " + text, new Probe().command("line 8 29 " + text), -1005);
            Probe.is("line 7 30 " + text, new Probe().command("line 7 30 " + text), -1007);
        }
        for (String text : new String[] {"on 0", "off 7", "set v0 0", "add v7 255", "emit 15", "mode 3", "run 7", "kill 0"}) {
            Probe.is(text, new Probe().command(text), 0);
            Probe.is("line 0 0 " + text, new Probe().command("line 0 0 " + text), 0);
        }
        Probe.is("a line of a line", new Probe().command("line 0 0 line 0 0 end"), -1009);
        Probe.is("a line of ready", new Probe().command("line 0 0 ready 0"), -1009);
        Probe.is("without a line", new Probe().command("line 0 0"), -1008);
        Probe.is("without a line", new Probe().command("line 0 0 "), -1009);
    }

    private static void told() {
        Doc.says("Promise 27", "THE TAPE is a command: its number.");
        Probe p = new Probe();
        for (int i = 0; i < 8; i++) {
            Probe.is("number", p.command("on " + i), i);
            p.commands(i + 1, i + 1, i + 1);
        }
        Probe wrong = new Probe();
        Probe.is("wrong", wrong.command("on 8"), -1003);
        wrong.commands(0, 0, 0);
        Probe.is("it had no number", wrong.command("on 7"), 0);
    }

    private static void byteTen() {
        Doc.says("CORNERS", "A byte 10 behind a command is WRONG.");
        for (String text : new String[] {"on 0", "set v0 255", "ready 7", "line 7 29 end", "line 0 0 until bat = -1"}) {
            Probe.is(text, new Probe().command(text + "\n"), -1000 - text.length());
            Probe.is(text, new Probe().command(text + "\nend\n"), -1000 - text.length());
        }
    }

    private static void full() {
        Doc.says("Promise 27", "FULL, and THE TAPE stays, if 8 are kept; WRONG.");
        Probe p = Probe.seen();
        for (int i = 0; i < 8; i++) {
            p.command("on 0");
        }
        p.tape("on 5");
        Probe.is("a ninth", p.house.command(), -4);
        Probe.is("THE TAPE stays", p.tapeSize(), 4);
        p.commands(8, 8, 8);
        Probe.is("still", p.house.command(), -4);
        Probe.is("a wrong one, too", p.command("x"), -4);
        Probe.is("THE TAPE stays", p.tapeSize(), 5);
        p.house.end(4);
        for (int i = 0; i < 8; i++) {
            p.house.send(0);
        }
        Probe.is("sent, but kept", p.house.command(), -4);
        p.house.tick(1);
        p.forge(1, 1);
        p.house.receive();
        p.commands(7, 0, 8);
        Probe.is("one was acknowledged", p.house.command(), 8);
        Probe.is("THE TAPE is empty", p.tapeSize(), 0);
        p.commands(8, 1, 9);
        Probe.is("full again", p.command("on 0"), -4);
        Probe.is("an empty tape, too", new Probe().command(""), -1000);
        Twins.refused("a ninth", Twins::full, -4, house -> house.command());
    }

    /** Tells and sends so many commands, and has them acknowledged. */
    private static Probe numbered(int count) {
        Probe p = Probe.sending(0);
        for (int i = 1; i < count; i++) {
            p.sent("on 0");
            if (i % 7 == 0 || i == count - 1) {
                p.house.tick(1);
                p.house.receive();
            }
        }
        return p;
    }

    private static void numbersAround() {
        Doc.says("Part VIII", "THE GROUND numbers them, from 0 on, mod 256, and keeps those not acknowledged, at most 8.");
        Probe p = numbered(253);
        p.commands(0, 0, 253);
        p.awaits(253, 0);
        int[] numbers = {253, 254, 255, 0, 1, 2, 3, 4};
        for (int number : numbers) {
            Probe.is("number", p.command("add v7 1"), number);
        }
        p.commands(8, 8, 5);
        for (int number : numbers) {
            p.awaits(number, 0);
            Probe.is("ACCEPTED", p.house.send(0), 1);
        }
        p.variable(7, 8);
        p.awaits(5, 0);
        p.house.tick(1);
        Probe.is("REPORT", p.house.noise(1, 0), 5);
        p.house.receive();
        p.commands(0, 0, 5);
    }

    private static void sent() {
        Doc.says("Promise 28", "The next command that is to be sent goes up; how 0: well, 1: it is lost, 2: it comes twice: 1 if it was ACCEPTED, else 0.");
        Probe well = Probe.seen();
        well.command("add v1 1");
        Probe.is("well", well.house.send(0), 1);
        well.variable(1, 1);
        well.awaits(1, 0);
        well.commands(1, 0, 1);
        Probe lost = Probe.seen();
        lost.command("add v1 1");
        Probe.is("lost", lost.house.send(1), 0);
        lost.variable(1, 0);
        lost.awaits(0, 0);
        lost.commands(1, 0, 1);
        Probe twice = Probe.seen();
        twice.command("add v1 1");
        Probe.is("twice", twice.house.send(2), 1);
        twice.variable(1, 1);
        twice.awaits(1, 1);
        twice.commands(1, 0, 1);
        Probe other = Probe.seen();
        other.command("add v1 1");
        other.command("add v1 2");
        other.command("add v1 4");
        other.house.send(1);
        Probe.is("another number", other.house.send(0), 0);
        other.awaits(0, 1);
        Probe.is("another number, twice", other.house.send(2), 0);
        other.variable(1, 0);
        other.awaits(0, 1);
    }

    private static void refusedSends() {
        Doc.says("Promise 28", "NONE for another how, if none is to be sent, or no station SEES the ship.");
        Twins.beyond("how", 0, 2, (house, x) -> house.send(x));
        for (int how = 0; how < 3; how++) {
            int h = how;
            Probe none = Probe.seen();
            Probe.is("none was told", none.house.send(how), -1);
            none.command("on 0");
            none.house.send(0);
            Probe.is("all were sent", none.house.send(how), -1);
            none.awaits(1, 0);
            Probe unseen = new Probe();
            unseen.command("on 1");
            Probe.is("no station", unseen.house.send(how), -1);
            unseen.commands(1, 1, 1);
            Probe.is("not done", unseen.house.served(1, 0), 0);
            unseen.awaits(0, 0);
            Twins.refused("no station", () -> {
                Probe p = Twins.busy();
                for (int station = 0; station < 4; station++) {
                    p.house.station(station, 0, 0, 0);
                }
                return p;
            }, -1, house -> house.send(h));
            Twins.refused("none is to be sent", () -> {
                Probe p = Twins.busy();
                for (int i = p.house.ground(4); i > 0; i--) {
                    p.house.send(1);
                }
                return p;
            }, -1, house -> house.send(h));
        }
    }

    private static void whenSeen() {
        Doc.says("Part VIII", "A command goes up only if a station SEES the ship.");
        for (int station = 0; station < 4; station++) {
            Probe p = new Probe();
            p.house.orbit(3600, 0, 0, 0);
            p.house.station(station, 5, 2, 0);
            p.command("on 1");
            p.command("on 2");
            p.house.tick(4);
            Probe.is("at 4", p.house.send(0), -1);
            p.house.tick(1);
            Probe.is("at 5", p.house.send(0), 1);
            p.house.tick(2);
            Probe.is("at 7", p.house.send(0), -1);
            p.commands(2, 1, 2);
        }
    }

    private static void inOrder() {
        Doc.says("Part VIII", "They are sent up one by one: each that comes well is ACCEPTED and done at once if its number is the one that is awaited"
            + " (that is one more then; FLAGS are 0 then); if it is another one: FLAGS become 1, it is gone.");
        Probe p = Probe.sending(0);
        for (int i = 1; i < 5; i++) {
            p.command("on " + i);
        }
        p.house.send(0);
        p.awaits(2, 0);
        Probe.is("done at once", p.house.served(1, 0), 1);
        p.house.send(1);
        p.awaits(2, 0);
        p.house.send(0);
        p.awaits(2, 1);
        Probe.is("it is gone", p.house.served(3, 0), 0);
        p.house.tick(1);
        p.house.receive();
        p.commands(3, 3, 5);
        p.house.send(0);
        Probe.is("ACCEPTED: FLAGS are 0", p.house.ship(12), 0);
        p.awaits(3, 0);
        Probe.is("done at once", p.house.served(2, 0), 1);
        Probe.is("the others are not", p.house.served(3, 0) + p.house.served(4, 0), 0);
    }

    /** A REPORT so many ahead of the oldest, which is 1, with so many kept, and sent. */
    private static void reportCase(int kept, int sent, int ahead, int flags) {
        Probe p = Probe.sending(1);
        p.house.receive();
        for (int i = 0; i < kept; i++) {
            p.command("set v1 " + i);
        }
        for (int i = 0; i < sent; i++) {
            p.house.send(1);
        }
        p.house.tick(1);
        p.forge(1, 1 + ahead & 255, flags);
        Probe.is("received", p.house.receive(), 0);
        boolean acknowledges = ahead >= 0 && ahead <= kept;
        int left = acknowledges ? kept - ahead : kept;
        int unsent = acknowledges ? kept - Math.max(sent, ahead) : kept - sent;
        String what = "kept " + kept + " sent " + sent + " ahead " + ahead + " flags " + flags;
        Probe.is(what + ": kept", p.house.ground(3), left);
        Probe.is(what + ": to be sent", p.house.ground(4), flags == 1 ? left : unsent);
        Probe.is(what + ": next", p.house.ground(5), 1 + kept);
    }

    private static void reports() {
        Doc.says("Part VIII", "A REPORT that comes by a FRAME that is not BAD acknowledges all kept ones ahead of it (as many as its number is ahead of the oldest"
            + " kept one's, if that is not more than are kept); with FLAGS 1 all that are left are to be sent again, from the oldest on.");
        for (int kept = 0; kept <= 8; kept++) {
            for (int sent = 0; sent <= kept; sent++) {
                for (int ahead = -2; ahead <= 10; ahead++) {
                    for (int flags = 0; flags < 3; flags++) {
                        reportCase(kept, sent, ahead, flags);
                    }
                }
                reportCase(kept, sent, 128, 0);
                reportCase(kept, sent, 254, 0);
            }
        }
        Probe bad = Probe.sending(1);
        bad.house.noise(1, 7);
        bad.house.receive();
        bad.commands(1, 0, 1);
    }

    private static void reportsAround() {
        for (int base : new int[] {250, 255, 256}) {
            for (int kept : new int[] {0, 1, 7, 8}) {
                for (int ahead = -1; ahead <= 9; ahead++) {
                    Probe p = numbered(base);
                    int oldest = base & 255;
                    for (int i = 0; i < kept; i++) {
                        Probe.is("number", p.command("on 0"), oldest + i & 255);
                    }
                    p.house.tick(1);
                    p.forge(1, oldest + ahead & 255);
                    p.house.receive();
                    boolean acknowledges = ahead >= 0 && ahead <= kept;
                    int left = acknowledges ? kept - ahead : kept;
                    p.commands(left, left, oldest + kept & 255);
                }
            }
        }
    }

    private static void sentAgain() {
        Probe p = Probe.sending(0);
        for (int i = 1; i < 8; i++) {
            p.command("line 0 " + i + " set v" + i + " " + i);
        }
        p.house.send(0);
        p.house.send(1);
        for (int i = 0; i < 4; i++) {
            Probe.is("gone", p.house.send(0), 0);
        }
        p.house.tick(1);
        p.house.receive();
        p.commands(6, 6, 8);
        for (int i = 0; i < 6; i++) {
            p.awaits(2 + i, i == 0 ? 1 : 0);
            Probe.is("from the oldest on", p.house.send(0), 1);
        }
        p.awaits(8, 0);
        Probe.is("none is left", p.house.send(0), -1);
        p.house.tick(1);
        p.house.receive();
        p.commands(0, 0, 8);
    }

    private static void done() {
        Doc.says("Part VIII", "What is done by a command is done as by a PROGRAM (emit: with V as they are; a LOST one: an EVENT alone); mode and kill end what they end.");
        for (int i = 0; i < 8; i++) {
            Probe p = Probe.seen();
            p.program(i, "wait 9\n");
            p.sent("on " + i);
            Probe.is("on", p.house.served(i, 0), 1);
            p.sent("off " + i);
            Probe.is("off", p.house.served(i, 0), 0);
            p.sent("run " + i);
            p.state(i, 1, 0, 0);
            p.house.tick(1);
            p.state(i, 1, 1, 9);
            p.sent("run " + i);
            p.state(i, 1, 0, 0);
            p.house.tick(1);
            p.sent("kill " + i);
            p.state(i, 0, -1, 0);
            p.sent("set v" + i + " 255");
            p.variable(i, 255);
            p.sent("add v" + i + " 2");
            p.variable(i, 1);
        }
        for (int n = 0; n < 16; n++) {
            Probe p = Probe.seen();
            p.sent("set v0 9");
            p.sent("set v3 7");
            p.sent("emit " + n);
            Probe.is("bytes", p.house.ship(9), 6 + n % 4);
            p.sent("set v0 1");
            p.sent("on 0");
            p.house.tick(1);
            p.house.receive();
            p.house.packet(0);
            Probe.is("with V as they were", p.outNumbers(), 10 + n + " 0 0 0 " + (n % 4 + 1) + " 9" + new String[] {"", " 0", " 0 0", " 0 0 7"}[n % 4]);
        }
        Probe mode = Probe.seen();
        mode.house.mode(3, 0b11, 0b1000);
        mode.program(3, "wait 9\n");
        mode.program(4, "wait 9\n");
        mode.sent("run 3");
        mode.sent("run 4");
        mode.sent("mode 3");
        mode.state(3, 1, 0, 0);
        mode.state(4, 0, -1, 0);
        Probe.is("on", mode.house.served(0, 0) + mode.house.served(1, 0), 2);
        Probe.is("mode", mode.house.ship(5), 3);
    }

    private static void lostVariables() {
        for (int v = 0; v < 4; v++) {
            for (String text : new String[] {"emit 0", "emit 1", "emit 2", "emit 15", "add v" + v + " 1", "set v" + v + " 3"}) {
                Probe p = Probe.seen();
                p.program(0, "wait 9\n");
                p.sent("run 0");
                p.house.flip(v, 3);
                p.house.flip(v, 5);
                int bits = p.house.word(v, 0);
                boolean reads = text.startsWith("add") || text.startsWith("emit") && v <= Integer.parseInt(text.substring(5)) % 4;
                Probe.is("ACCEPTED", p.sent(text), 1);
                Probe.is("an EVENT by " + text, p.house.ship(6), reads ? 1 : 0);
                p.awaits(2, 0);
                p.state(0, 1, 0, 0);
                if (reads) {
                    Probe.is("alone", p.house.ship(10), 0);
                    Probe.is("alone", p.house.word(v, 0), bits);
                }
            }
        }
        Probe count = Probe.sending(0);
        count.house.flip(0, 3);
        count.house.flip(0, 5);
        count.sent("emit 4");
        count.sent("set v0 3");
        count.sent("emit 4");
        count.house.tick(1);
        count.house.receive();
        count.house.packet(0);
        Probe.is("it was not counted", count.outNumbers(), "14 0 0 0 1 3");
    }

    private static void drafts() {
        Doc.says("Part VIII", "(its line N, 0 .. 29, of the DRAFT of PROGRAM K, 0 .. 7)");
        for (int k = 0; k < 8; k++) {
            Probe p = Probe.sending(0);
            p.sent("line " + k + " 0 add v" + k + " 1");
            p.sent("line " + k + " 1 add v" + k + " 2");
            p.sent("line " + k + " 1 add v" + k + " 16");
            for (int other = 0; other < 8; other++) {
                Probe.is("a DRAFT alone", p.house.runs(other, 0), 0);
            }
            p.sent("ready " + k);
            for (int other = 0; other < 8; other++) {
                Probe.is("lines", p.house.runs(other, 0), other == k ? 2 : 0);
            }
            p.sent("run " + k);
            p.house.tick(1);
            p.variable(k, 17);
        }
        Probe full = Probe.sending(0);
        full.sent("line 6 29 add v0 1");
        full.house.tick(1);
        full.house.receive();
        for (int n = 29; n >= 0; n--) {
            full.sent("line 7 " + n + " add v0 1");
            full.house.tick(1);
            full.house.receive();
        }
        full.sent("ready 7");
        Probe.is("30 lines", full.house.runs(7, 0), 30);
        full.sent("run 7");
        full.house.tick(4);
        full.variable(0, 30);
        full.state(7, 0, -1, 0);
        Probe side = Probe.sending(0);
        side.sent("line 4 0 add v4 1");
        for (int n = 0; n < 30; n++) {
            side.sent("line 3 " + n + " add v3 1");
            side.house.tick(1);
            side.house.receive();
        }
        side.sent("ready 3");
        Probe.is("30 lines, and none of the next DRAFT", side.house.runs(3, 0), 30);
        Probe.is("not ready yet", side.house.runs(4, 0), 0);
        side.sent("ready 4");
        Probe.is("it stayed", side.house.runs(4, 0), 1);
        side.sent("line 3 28 end");
        side.sent("line 3 29 end");
        side.sent("ready 3");
        Probe.is("the DRAFT was empty to its last line", side.house.runs(3, 0), 30);
        side.house.tick(1);
        side.house.receive();
        for (int n = 0; n < 28; n++) {
            side.sent("line 3 " + n + " end");
            side.house.tick(1);
            side.house.receive();
        }
        side.sent("ready 3");
        Probe.is("30 lines again", side.house.runs(3, 0), 30);
        for (int n = 0; n < 29; n++) {
            side.sent("line 3 " + n + " end");
            side.house.tick(1);
            side.house.receive();
        }
        side.sent("ready 3");
        Probe.is("29 lines", side.house.runs(3, 0), 29);
    }

    private static void ready() {
        Doc.says("Part VIII", "or ready K (the DRAFT's lines from 0 up to the first that there is not are PROGRAM K, that ends if it runs; the DRAFT is empty then;"
            + " nothing, if it has no line 0).");
        Probe p = Probe.sending(0);
        p.program(3, "wait 90\nset v1 1\nset v2 1\n");
        p.sent("run 3");
        p.house.tick(1);
        p.house.receive();
        p.sent("line 3 0 set v4 4");
        p.sent("line 3 2 set v5 5");
        p.state(3, 1, 1, 90);
        p.sent("ready 3");
        Probe.is("up to the first that there is not", p.house.runs(3, 0), 1);
        p.state(3, 0, -1, 0);
        p.sent("line 3 1 set v6 6");
        p.sent("ready 3");
        Probe.is("the DRAFT was empty: it has no line 0", p.house.runs(3, 0), 1);
        p.house.tick(1);
        p.house.receive();
        p.sent("line 3 0 set v4 5");
        p.sent("ready 3");
        Probe.is("lines 0 and 1, but not 2 of the DRAFT before", p.house.runs(3, 0), 2);
        p.sent("run 3");
        p.house.tick(1);
        p.variable(4, 5);
        p.variable(6, 6);
        p.variable(5, 0);
        Probe whole = Probe.sending(0);
        whole.program(0, "set v1 1\n".repeat(30));
        whole.sent("line 0 0 set v2 2");
        whole.sent("ready 0");
        Probe.is("nothing of the PROGRAM before", whole.house.runs(0, 0), 1);
        whole.sent("run 0");
        whole.house.tick(1);
        whole.variable(2, 2);
        whole.variable(1, 0);
        Probe other = Probe.sending(0);
        other.sent("line 1 0 end");
        other.sent("line 2 0 end");
        other.sent("ready 1");
        Probe.is("1", other.house.runs(1, 0), 1);
        Probe.is("not 2", other.house.runs(2, 0), 0);
        other.sent("ready 2");
        Probe.is("2", other.house.runs(2, 0), 1);
    }

    private static void readyOfNothing() {
        Doc.says("CORNERS", "ready of a DRAFT without a line 0 is ACCEPTED, and does nothing (the DRAFT stays).");
        Probe p = Probe.sending(0);
        p.program(5, "wait 90\nend\n");
        p.sent("run 5");
        p.house.tick(1);
        p.house.receive();
        Probe.is("ACCEPTED", p.sent("ready 5"), 1);
        p.awaits(3, 0);
        Probe.is("lines", p.house.runs(5, 0), 2);
        p.state(5, 1, 1, 90);
        p.sent("line 5 1 set v1 1");
        p.sent("line 5 29 set v2 1");
        Probe.is("ACCEPTED", p.sent("ready 5"), 1);
        Probe.is("lines", p.house.runs(5, 0), 2);
        p.state(5, 1, 1, 90);
        p.sent("line 5 0 set v0 1");
        p.sent("ready 5");
        Probe.is("the DRAFT stayed", p.house.runs(5, 0), 2);
        p.state(5, 0, -1, 0);
        p.sent("run 5");
        p.house.tick(1);
        p.variable(0, 1);
        p.variable(1, 1);
        p.variable(2, 0);
    }
}
