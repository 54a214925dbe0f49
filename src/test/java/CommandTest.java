/** Promises 27 to 29: command, send, ground. */
final class CommandTest {
    public static void main(String[] args) {
        telling();
        sending();
        inOrder();
        reports();
        oldReports();
        wrapping();
        doing();
        lost();
        drafts();
        Probe.finish("CommandTest");
    }

    private static void telling() {
        Probe p = new Probe();
        Probe.is("what -1", p.house.ground(-1), -1);
        Probe.is("what 6", p.house.ground(6), -1);
        for (int i = 0; i < 8; i++) {
            Probe.is("number", p.command("on " + i), i);
            p.commands(i + 1, i + 1, i + 1);
        }
        p.tape("on 0");
        Probe.is("a ninth", p.house.command(), -4);
        Probe.is("FULL leaves the tape", p.tapeSize(), 4);
        p.commands(8, 8, 8);
        Probe.is("FULL is told ahead of WRONG", p.command("x"), -4);
        Probe q = new Probe();
        Probe.is("wrong", q.command("x"), -1000);
        Probe.is("wrong has no number", q.command("on 0"), 0);
    }

    private static void sending() {
        Probe p = new Probe();
        p.command("on 3");
        Probe.is("no station sees the ship", p.house.send(0), -1);
        p.commands(1, 1, 1);
        p.house.station(2, 5, 1, 0);
        Probe.is("not yet", p.house.send(0), -1);
        p.house.station(2, 0, 1, 0);
        Probe.is("how -1", p.house.send(-1), -1);
        Probe.is("how 3", p.house.send(3), -1);
        p.commands(1, 1, 1);
        Probe.is("not done yet", p.house.served(3, 0), 0);
        Probe.is("well", p.house.send(0), 1);
        Probe.is("done at once", p.house.served(3, 0), 1);
        p.commands(1, 0, 1);
        p.awaits(1, 0);
        Probe.is("none is to be sent", p.house.send(0), -1);
    }

    private static void inOrder() {
        Probe p = Probe.seen();
        p.command("on 1");
        p.command("on 2");
        p.command("on 3");
        p.command("on 4");
        Probe.is("lost", p.house.send(1), 0);
        p.commands(4, 3, 4);
        p.awaits(0, 0);
        Probe.is("nothing is done", p.house.served(1, 0), 0);
        Probe.is("another number", p.house.send(0), 0);
        p.awaits(0, 1);
        Probe.is("it is gone", p.house.served(2, 0), 0);
        Probe.is("twice another number", p.house.send(2), 0);
        p.awaits(0, 1);
        p.commands(4, 1, 4);
        p.sent("on 5");
        p.awaits(0, 1);

        Probe twice = Probe.seen();
        twice.command("add v1 1");
        twice.command("add v1 10");
        Probe.is("twice", twice.house.send(2), 1);
        twice.awaits(1, 1);
        Probe.is("done once", twice.house.word(1, 1), 1);
        Probe.is("the next one", twice.house.send(0), 1);
        twice.awaits(2, 0);
        Probe.is("done", twice.house.word(1, 1), 11);
    }

    private static void reports() {
        Probe p = Probe.seen();
        p.command("on 0");
        p.command("on 1");
        p.command("on 2");
        p.command("on 3");
        p.house.send(0);
        p.house.send(0);
        p.house.tick(1);
        p.commands(4, 2, 4);
        Probe.is("a frame with report 2", p.house.receive(), 0);
        p.commands(2, 2, 4);
        p.house.send(1);
        p.house.send(0);
        p.commands(2, 0, 4);
        p.awaits(2, 1);
        p.command("on 4");
        p.house.tick(1);
        p.house.receive();
        p.commands(3, 3, 5);
        Probe.is("sent again", p.house.send(0), 1);
        Probe.is("2 is on", p.house.served(2, 0), 1);
        Probe.is("sent again", p.house.send(0), 1);
        Probe.is("3 is on", p.house.served(3, 0), 1);
        p.commands(3, 1, 5);
        p.house.tick(1);
        p.house.noise(5, 1);
        Probe.is("a bad frame", p.house.receive(), -2);
        p.commands(3, 1, 5);
        p.house.tick(1);
        p.house.receive();
        p.commands(1, 1, 5);
        Probe.is("the last", p.house.send(0), 1);
        Probe.is("4 is on", p.house.served(4, 0), 1);
        p.house.tick(1);
        p.house.receive();
        p.commands(0, 0, 5);
    }

    /** Reports that come late: those of what was acknowledged before, and flags of what was mended since. */
    private static void oldReports() {
        Probe p = Probe.seen();
        p.sent("on 0");
        p.house.tick(2);
        p.command("on 1");
        p.house.receive();
        p.commands(1, 1, 2);
        p.house.send(0);
        p.house.receive();
        p.commands(1, 0, 2);
        p.house.tick(1);
        p.command("on 2");
        p.command("on 3");
        p.house.send(1);
        p.house.send(0);
        p.house.tick(1);
        p.awaits(2, 1);
        p.house.receive();
        p.commands(2, 0, 4);
        p.house.receive();
        p.commands(2, 2, 4);
        p.house.send(0);
        p.house.send(0);
        p.house.tick(1);
        Probe.is("one wait", p.house.ship(14), 1);
        p.house.receive();
        p.commands(0, 0, 4);

        Probe again = Probe.seen();
        again.sent("on 0");
        again.command("on 1");
        again.command("on 2");
        again.house.send(1);
        again.house.send(0);
        again.house.tick(1);
        again.house.receive();
        again.commands(2, 2, 3);
        again.house.tick(1);
        again.house.send(0);
        again.house.send(0);
        again.house.tick(1);
        again.commands(2, 0, 3);
        again.house.receive();
        again.commands(2, 2, 3);
        again.house.receive();
        again.commands(0, 0, 3);
        again.awaits(3, 0);
        Probe beyond = Probe.seen();
        beyond.sent("on 0");
        beyond.house.tick(1);
        beyond.command("on 1");
        beyond.forge(1, 3, 0);
        beyond.house.receive();
        beyond.commands(2, 1, 2);
        beyond.house.tick(1);
        beyond.forge(1, 3, 1);
        beyond.house.receive();
        beyond.commands(2, 2, 2);
        beyond.house.tick(1);
        beyond.forge(1, 2, 0);
        beyond.house.receive();
        beyond.commands(0, 0, 2);
        Probe flags = Probe.seen();
        flags.sent("on 0");
        flags.house.tick(1);
        flags.forge(1, 0, 3);
        flags.house.receive();
        flags.commands(1, 0, 1);
    }

    private static void wrapping() {
        Probe p = Probe.seen();
        p.sent("on 0");
        for (int i = 1; i < 300; i++) {
            Probe.is("number", p.command("add v7 1"), i % 256);
            Probe.is("accepted", p.house.send(0), 1);
            if (i % 4 == 0) {
                p.house.tick(1);
                p.house.receive();
                p.commands(0, 0, (i + 1) % 256);
            }
        }
        p.awaits(300 % 256, 0);
        Probe.is("all were done", p.house.word(7, 1), 299 % 256);
    }

    private static void doing() {
        Probe p = Probe.seen();
        p.house.mode(2, 0b1001, 0b1);
        p.program(0, "wait 50\n");
        p.program(1, "wait 50\n");
        p.sent("run 0");
        Probe.is("runs", p.house.runs(0, 1), 1);
        Probe.is("at line 0", p.house.runs(0, 2), 0);
        p.sent("run 1");
        p.house.tick(1);
        Probe.is("waits", p.house.runs(0, 3), 50);
        p.sent("run 0");
        Probe.is("begins anew", p.house.runs(0, 2), 0);
        Probe.is("and waits no more", p.house.runs(0, 3), 0);
        p.sent("on 5");
        p.sent("mode 2");
        Probe.is("mode", p.house.ship(5), 2);
        Probe.is("0 stays", p.house.runs(0, 1), 1);
        Probe.is("1 ends", p.house.runs(1, 1), 0);
        Probe.is("5 is off", p.house.served(5, 0), 0);
        Probe.is("3 is on", p.house.served(3, 0), 1);
        p.sent("kill 0");
        Probe.is("0 ends", p.house.runs(0, 1), 0);
        p.sent("off 3");
        Probe.is("3 is off", p.house.served(3, 0), 0);
        Probe.is("no event by all that", p.house.ship(6), 0);
        Probe q = Probe.seen();
        q.sent("set v1 250");
        q.sent("add v1 10");
        Probe.is("add is mod 256", q.house.word(1, 1), 4);
        q.house.tick(5);
        q.sent("emit 1");
        Probe.is("recorded", q.house.ship(9), 7);
        q.sent("on 0");
        q.house.tick(1);
        Probe.is("sent", q.house.receive(), 1);
        q.house.packet(0);
        Probe.is("with the clock of the command", q.outNumbers(), "11 0 0 5 2 0 4");
        Probe none = Probe.seen();
        none.sent("run 6");
        Probe.is("a program without lines runs", none.house.runs(6, 1), 1);
        none.house.tick(1);
        Probe.is("till its turn comes", none.house.runs(6, 1), 0);
    }

    private static void lost() {
        Probe p = Probe.seen();
        p.house.flip(1, 3);
        p.house.flip(1, 9);
        int bits = p.house.word(1, 0);
        p.program(0, "wait 9\n");
        p.sent("run 0");
        Probe.is("accepted", p.sent("emit 1"), 1);
        Probe.is("an event", p.house.ship(6), 1);
        Probe.is("alone", p.house.ship(10), 0);
        Probe.is("accepted", p.sent("add v1 1"), 1);
        Probe.is("an event", p.house.ship(6), 2);
        Probe.is("alone", p.house.word(1, 0), bits);
        Probe.is("programs go on", p.house.runs(0, 1), 1);
        p.awaits(3, 0);
        p.sent("emit 0");
        Probe.is("what is not read does not matter", p.house.ship(6), 2);
        p.sent("set v1 3");
        Probe.is("set reads nothing", p.house.word(1, 1), 3);
        p.sent("on 0");
        p.sent("emit 1");
        p.house.tick(1);
        p.house.receive();
        p.house.packet(1);
        Probe.is("a packet that was not made has no count", p.house.out(1), 0);
    }

    private static void drafts() {
        Probe p = Probe.seen();
        p.program(2, "wait 70\nend\n");
        p.sent("run 2");
        p.house.tick(1);
        p.sent("on 0");
        Probe.is("ready without a line 0 is accepted", p.sent("ready 2"), 1);
        Probe.is("and does nothing", p.house.runs(2, 1), 1);
        Probe.is("and does nothing", p.house.runs(2, 0), 2);
        p.sent("line 2 1 set v1 1");
        p.sent("ready 2");
        Probe.is("still nothing", p.house.runs(2, 1), 1);
        p.house.tick(1);
        p.house.receive();
        p.sent("line 2 0 set v0 1");
        p.sent("line 2 3 set v3 1");
        p.sent("line 2 1 set v1 9");
        Probe.is("not yet", p.house.runs(2, 0), 2);
        p.sent("ready 2");
        Probe.is("up to the first that there is not", p.house.runs(2, 0), 2);
        Probe.is("it ends", p.house.runs(2, 1), 0);
        p.sent("run 2");
        p.house.tick(1);
        p.house.receive();
        Probe.is("line 0", p.house.word(0, 1), 1);
        Probe.is("line 1, told anew", p.house.word(1, 1), 9);
        Probe.is("line 3 is gone", p.house.word(3, 1), 0);
        p.sent("ready 2");
        Probe.is("the draft is empty", p.house.runs(2, 0), 2);
        p.sent("line 2 0 end");
        p.sent("line 3 1 end");
        p.sent("ready 2");
        Probe.is("one line alone", p.house.runs(2, 0), 1);
        p.house.tick(1);
        p.house.receive();
        p.sent("line 3 0 wait 1");
        p.sent("ready 3");
        Probe.is("each program has its draft", p.house.runs(3, 0), 2);
        p.sent("line 4 29 end");
        p.sent("line 4 0 if v0 = 1 go 2");
        p.sent("line 4 1 end");
        p.sent("line 4 2 set v6 66");
        p.house.tick(1);
        p.house.receive();
        p.sent("ready 4");
        p.sent("run 4");
        p.house.tick(1);
        Probe.is("if and go by a draft", p.house.word(6, 1), 66);
    }
}
