import java.util.ArrayList;
import java.util.List;
import java.util.function.Supplier;
import java.util.function.ToIntFunction;

/** Two houses that have lived alike: a refused call in one of them must leave them alike, now and later on. */
final class Twins {
    /** A call with one argument that has a range. */
    interface Ranged {
        int on(MissionHouse house, int x);
    }

    private Twins() {
    }

    /** On a new house the least and the greatest are right; beyond them it answers NONE, and nothing changes. */
    static void range(String what, int low, int high, int due, Ranged call) {
        Probe.is(what + " " + low, call.on(new MissionHouse(), low), due);
        Probe.is(what + " " + high, call.on(new MissionHouse(), high), due);
        beyond(what, low, high, call);
    }

    static void beyond(String what, int low, int high, Ranged call) {
        for (int x : new int[] {low - 1, high + 1, Integer.MIN_VALUE, Integer.MAX_VALUE}) {
            refused(what + " " + x, Twins::busy, MissionHouse.NONE, house -> call.on(house, x));
        }
    }

    static void refused(String what, Supplier<Probe> life, int due, ToIntFunction<MissionHouse> call) {
        Probe one = life.get();
        Probe other = life.get();
        Probe.is(what, call.applyAsInt(one.house), due);
        alike(what, one, other);
    }

    /** A WRONG text leaves nothing but an empty tape. */
    static void wrong(String what, String text, int place, ToIntFunction<MissionHouse> call) {
        Probe one = busy();
        Probe other = busy();
        one.house.end(0);
        other.house.end(0);
        one.tape(text);
        Probe.is(what + " '" + text + "'", call.applyAsInt(one.house), -1000 - place);
        alike(what + " '" + text + "'", one, other);
    }

    private static void alike(String what, Probe one, Probe other) {
        List<String> left = whole(one);
        List<String> right = whole(other);
        String difference = "";
        for (int i = 0; i < left.size() && difference.isEmpty(); i++) {
            difference = left.get(i).equals(right.get(i)) ? "" : left.get(i) + " instead of " + right.get(i);
        }
        Probe.is(what + " changes nothing", difference, "");
    }

    /** A house in which all that there may be is there, and under way. */
    static Probe busy() {
        Probe p = new Probe();
        MissionHouse house = p.house;
        house.leap(2001, 6);
        house.leap(2003, 12);
        house.orbit(300, 100, 900, 700);
        house.station(0, 0, 2600, 7);
        house.station(1, 500, 100, 1);
        house.station(3, 3599, 1800, 3599);
        house.power(900, 40);
        for (int i = 0; i < 8; i++) {
            house.load(i, 3 + 2 * i, 9 - i);
        }
        house.mode(0, 0b00000011, 0b11000000);
        house.mode(1, 0b00010101, 0b11110000);
        house.mode(2, 0b11111111, 0b11111111);
        house.mode(3, 0b01000001, 0b01111111);
        p.program(0, "add v0 1\nemit 13\nemit 2\nemit 15\nemit 3\nemit 11\nwait 1\ngo 0\n");
        p.program(1, "until bat < 700\nmode 3\nend\n");
        p.program(3, "mode 1\nwait 3\nmode 0\n");
        p.program(6, "mode 2\nwait 9\nset v3 7\n");
        p.program(7, "emit 7\n");
        p.monitor(0, 4, 7, "v0 > 1");
        p.monitor(7, 30, 8, "turn = 0");
        house.due(1, 6);
        house.due(2, 0);
        house.due(3, 1);
        house.due(19, 3);
        house.due(24, 0);
        house.flip(0, 5);
        house.flip(15, 2);
        house.flip(15, 7);
        house.flip(63, 12);
        for (String text : new String[] {"line 5 0 set v5 9", "line 5 2 end", "on 2", "emit 15", "ready 5", "run 5"}) {
            p.command(text);
        }
        house.send(0);
        house.send(0);
        house.tick(7);
        house.receive();
        house.send(0);
        house.send(1);
        house.send(0);
        house.tick(2);
        house.receive();
        house.receive();
        house.receive();
        house.lose();
        house.noise(7, 9);
        house.pass(0, 0, 10, 5);
        house.pass(1, 15, 30, 9);
        house.pass(0, 10, 18, 5);
        house.gap(4);
        house.bar(3, 5, true);
        house.bar(3, 4, true);
        house.bar(23, 0, true);
        house.written(189388800);
        p.tape("2003-12-31T23:59:60 and more");
        return p;
    }

    /** As busy, and nothing of which there is a greatest number may come. */
    static Probe full() {
        Probe p = busy();
        for (int year = 2010; year < 2018; year++) {
            p.house.leap(year, 6);
        }
        for (int i = p.house.ship(13); i < 10; i++) {
            p.house.due(15 + i, 7);
        }
        for (int i = 3; i < 12; i++) {
            p.house.pass(i % 4, 30 + 20 * i, 45 + 20 * i, 1 + i);
        }
        p.house.end(0);
        for (int i = p.house.ground(3); i < 8; i++) {
            p.command("set v4 " + i);
        }
        p.tape("2003-12-31T23:59:60 and more");
        return p;
    }

    /** All that can be seen of a house, and of what goes on in it; it is used up by that. */
    static List<String> whole(Probe p) {
        List<String> seen = new ArrayList<>();
        MissionHouse house = p.house;
        seen.add("out " + p.out());
        look(seen, house);
        for (int i = 8; i < 64; i++) {
            seen.add("word " + i + " " + house.word(i, 0));
        }
        for (int i = 0; i < 12; i++) {
            seen.add("best " + i + " " + house.best(i));
        }
        seen.add("best " + house.best(100) + " " + house.best(101) + " gap " + house.gap(3) + " passes " + house.clear());
        for (int i = 0; i < 4; i++) {
            seen.add("sight " + i + " " + house.sight(i, false) + " " + house.sight(i, true));
        }
        seen.add("bars " + house.bar(3, 5, false) + house.bar(3, 4, false) + house.bar(23, 0, false) + house.bar(0, 0, false));
        tape(seen, house);
        later(seen, p);
        return seen;
    }

    private static void look(List<String> seen, MissionHouse house) {
        for (int what = 0; what < 15; what++) {
            seen.add("ship " + what + " " + house.ship(what));
        }
        for (int what = 0; what < 6; what++) {
            seen.add("ground " + what + " " + house.ground(what));
        }
        for (int i = 0; i < 8; i++) {
            seen.add("load " + i + " " + house.served(i, 0) + " " + house.served(i, 1));
            seen.add("program " + i + " " + house.runs(i, 0) + " " + house.runs(i, 2) + " " + house.runs(i, 3));
            seen.add("word " + i + " " + house.word(i, 0));
        }
    }

    private static void tape(List<String> seen, MissionHouse house) {
        int size = house.feed(0, 0, 0, 0, 0);
        for (int n = 1600; size == MissionHouse.FULL && n > 1580; n--) {
            size = house.end(n) == n ? n : size;
        }
        seen.add("tape " + size);
        house.end(Math.min(19, Math.max(0, size - 20)));
        seen.add("date " + house.date());
        seen.add("written " + house.written(600000000) + house.out(17) + house.out(18) + house.written(1893456002));
    }

    private static void later(List<String> seen, Probe p) {
        MissionHouse house = p.house;
        for (int i = 0; i < 24; i += 5) {
            seen.add("frame " + house.noise(i, 0));
        }
        for (int i = 0; i < 6; i++) {
            seen.add("received " + house.receive());
        }
        for (int i = 0; i < 8; i++) {
            seen.add("sent " + house.send(0));
        }
        for (int i = 0; i < 4; i++) {
            house.tick(4 + i);
            glance(seen, house);
            seen.add("received " + house.receive() + house.receive() + house.receive() + house.receive());
        }
        for (int i = house.ground(2) - 1; i >= 0 && i > house.ground(2) - 4; i--) {
            house.packet(i);
            seen.add("packet " + i + " " + p.outNumbers());
        }
        house.tick(500);
        look(seen, house);
    }

    private static void glance(List<String> seen, MissionHouse house) {
        for (int what = 3; what < 15; what++) {
            seen.add("later ship " + what + " " + house.ship(what));
        }
        for (int i = 0; i < 8; i++) {
            seen.add("later load and program " + i + " " + house.served(i, 0) + " " + house.runs(i, 2));
        }
        seen.add("later ground " + house.ground(2) + " " + house.ground(4));
    }
}
