/** Promises 5 to 7: leap, date, written. */
final class TimesTest {
    public static void main(String[] args) {
        leaps();
        dates();
        wrongDates();
        leapSeconds();
        writing();
        Probe.finish("TimesTest");
    }

    private static void leaps() {
        MissionHouse house = new MissionHouse();
        Probe.is("month 0", house.leap(2000, 0), -1);
        Probe.is("month 7", house.leap(2000, 7), -1);
        Probe.is("month 13", house.leap(2000, 13), -1);
        Probe.is("year 1999", house.leap(1999, 12), -1);
        Probe.is("year 2060", house.leap(2060, 6), -1);
        Probe.is("first", house.leap(2000, 6), 1);
        Probe.is("the same", house.leap(2000, 6), -1);
        Probe.is("behind it", house.leap(2000, 12), 2);
        Probe.is("ahead of it", house.leap(2000, 6), -1);
        for (int i = 3; i <= 10; i++) {
            Probe.is("further", house.leap(2000 + i, i % 2 == 0 ? 6 : 12), i);
        }
        Probe.is("eleventh", house.leap(2059, 12), -4);
        Probe.is("NONE is told ahead of FULL", house.leap(2005, 6), -1);
        Probe.is("NONE is told ahead of FULL", house.leap(2059, 11), -1);
        MissionHouse last = new MissionHouse();
        Probe.is("the last year", last.leap(2059, 12), 1);
    }

    private static void dates() {
        Probe p = new Probe();
        Probe.is("first second", p.date("2000-01-01T00:00:00"), 0);
        Probe.is("a second", p.date("2000-01-01T00:00:01"), 1);
        Probe.is("a minute", p.date("2000-01-01T00:01:00"), 60);
        Probe.is("an hour", p.date("2000-01-01T01:00:00"), 3600);
        Probe.is("a day", p.date("2000-01-02T00:00:00"), 86400);
        Probe.is("a month", p.date("2000-02-01T00:00:00"), 31 * 86400);
        Probe.is("29 of February 2000", p.date("2000-02-29T00:00:00"), 59 * 86400);
        Probe.is("March 2000", p.date("2000-03-01T00:00:00"), 60 * 86400);
        Probe.is("2001", p.date("2001-01-01T00:00:00"), 366 * 86400);
        Probe.is("March 2001", p.date("2001-03-01T00:00:00"), (366 + 59) * 86400);
        Probe.is("the last second", p.date("2059-12-31T23:59:59"), 1893455999);
        Probe.is("the tape is empty behind it", p.tapeSize(), 0);
    }

    private static void wrongDates() {
        Probe p = new Probe();
        Probe.is("nothing", p.date(""), -1000);
        String right = "2024-02-29T23:59:59";
        for (int i = 0; i < 19; i++) {
            Probe.is("too short", p.date(right.substring(0, i)), -1000 - i);
            Probe.is("an x at " + i, p.date(right.substring(0, i) + "x" + right.substring(i + 1)), -1000 - i);
        }
        Probe.is("too long", p.date(right + "0"), -1019);
        Probe.is("too long by a line end", p.date(right + "\n"), -1019);
        Probe.is("the tape is empty behind it", p.tapeSize(), 0);
        Probe.is("year 1999", p.date("1999-01-01T00:00:00"), -1000);
        Probe.is("year 2060", p.date("2060-01-01T00:00:00"), -1000);
        Probe.is("year, nothing behind it", p.date("2060"), -1000);
        Probe.is("a year that can't be yet goes on to a wrong byte", p.date("9x"), -1001);
        Probe.is("year not complete", p.date("999"), -1003);
        Probe.is("month 0", p.date("2000-00-01T00:00:00"), -1005);
        Probe.is("month 13", p.date("2000-13-01T00:00:00"), -1005);
        Probe.is("month 9x", p.date("2000-9x-01T00:00:00"), -1006);
        Probe.is("day 0", p.date("2000-01-00T00:00:00"), -1008);
        Probe.is("day 32", p.date("2000-01-32T00:00:00"), -1008);
        Probe.is("April 31", p.date("2000-04-31T00:00:00"), -1008);
        Probe.is("February 30", p.date("2000-02-30T00:00:00"), -1008);
        Probe.is("February 29 of 2001", p.date("2001-02-29T00:00:00"), -1008);
        Probe.is("hour 24", p.date("2000-01-01T24:00:00"), -1011);
        Probe.is("minute 60", p.date("2000-01-01T00:60:00"), -1014);
        Probe.is("second 60", p.date("2000-01-01T00:00:60"), -1017);
        Probe.is("second 61", p.date("2000-01-01T00:00:61"), -1017);
        Probe.is("the first from the left", p.date("2000-13-41T24:00:0x"), -1005);
        Probe.is("small t", p.date("2000-01-01t00:00:00"), -1010);
        p.house.written(86399);
        Probe.is("a wrong date writes nothing", p.date("2060"), -1000);
        Probe.is("out", p.out(), "2000-01-01T23:59:59");
    }

    private static void leapSeconds() {
        Probe p = new Probe();
        p.house.leap(2001, 6);
        p.house.leap(2001, 12);
        int june = (366 + 181) * 86400;
        int december = (366 + 365) * 86400 + 1;
        Probe.is("ahead of the leap", p.date("2001-06-30T23:59:59"), june - 1);
        Probe.is("the leap", p.date("2001-06-30T23:59:60"), june);
        Probe.is("behind the leap", p.date("2001-07-01T00:00:00"), june + 1);
        Probe.is("61 in a leap", p.date("2001-06-30T23:59:61"), -1017);
        Probe.is("60 an hour earlier", p.date("2001-06-30T22:59:60"), -1017);
        Probe.is("60 a minute earlier", p.date("2001-06-30T23:58:60"), -1017);
        Probe.is("60 a day earlier", p.date("2001-06-29T23:59:60"), -1017);
        Probe.is("60 a year later", p.date("2002-06-30T23:59:60"), -1017);
        Probe.is("the second leap", p.date("2001-12-31T23:59:60"), december);
        Probe.is("behind both", p.date("2002-01-01T00:00:00"), december + 1);
        int[] seconds = {june - 1, june, june + 1, december - 1, december, december + 1};
        String[] texts = {"2001-06-30T23:59:59", "2001-06-30T23:59:60", "2001-07-01T00:00:00",
            "2001-12-31T23:59:59", "2001-12-31T23:59:60", "2002-01-01T00:00:00"};
        for (int i = 0; i < 6; i++) {
            Probe.is("written", p.house.written(seconds[i]), 19);
            Probe.is("written " + seconds[i], p.out(), texts[i]);
        }
    }

    private static void writing() {
        Probe p = new Probe();
        Probe.is("below 0", p.house.written(-1), -1);
        Probe.is("least int", p.house.written(Integer.MIN_VALUE), -1);
        Probe.is("behind the years", p.house.written(1893456000), -1);
        Probe.is("greatest int", p.house.written(Integer.MAX_VALUE), -1);
        Probe.is("the last second", p.house.written(1893455999), 19);
        Probe.is("the last second", p.out(), "2059-12-31T23:59:59");
        p.house.leap(2059, 12);
        Probe.is("a leap at the end", p.house.written(1893456000), 19);
        Probe.is("a leap at the end", p.out(), "2059-12-31T23:59:60");
        Probe.is("behind it", p.house.written(1893456001), -1);
        for (int day = 0; day < 21915; day += 13) {
            p.house.written(day * 86400 + 3661);
            Probe.is("there and back", p.date(p.out()), day * 86400 + 3661);
        }
        p.house.written(3600);
        Probe.is("an hour", p.out(), "2000-01-01T01:00:00");
        p.house.written(86400 + 23 * 3600);
        Probe.is("23 hours", p.out(), "2000-01-02T23:00:00");
        p.house.written(59 * 86400 + 45296);
        Probe.is("February 29", p.out(), "2000-02-29T12:34:56");
    }
}
