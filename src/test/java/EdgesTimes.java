/** Part II, and promises 5 to 7: leap, date, written. */
final class EdgesTimes {
    private static final int[] DAYS = {31, 28, 31, 30, 31, 30, 31, 31, 30, 31, 30, 31};
    private static final int ALL = 21915 * 86400;

    static void all() {
        firstSecond();
        calendar();
        years();
        leapDays();
        leaps();
        leapsFull();
        places();
        rangesOfDates();
        sixty();
        written();
        writtenLeaps();
    }

    private static String text(int year, int month, int day, String time) {
        return String.format("%04d-%02d-%02dT%s", year, month, day, time);
    }

    private static int daysIn(int year, int month) {
        return DAYS[month - 1] + (month == 2 && year % 4 == 0 ? 1 : 0);
    }

    private static void written(Probe p, int second, String due) {
        Probe.is("written " + second, p.house.written(second), 19);
        Probe.is("written " + second, p.out(), due);
    }

    private static void firstSecond() {
        Doc.says("Part II", "THE CLOCK counts seconds, 0 being the first one of 2000-01-01");
        Probe p = new Probe();
        Probe.is("the first", p.date("2000-01-01T00:00:00"), 0);
        written(p, 0, "2000-01-01T00:00:00");
        Probe.is("the second", p.date("2000-01-01T00:00:01"), 1);
        Doc.says("Promise 6", "THE TAPE is a DATE: its second.");
        Probe.is("the last of a minute", p.date("2000-01-01T00:00:59"), 59);
        Probe.is("the next minute", p.date("2000-01-01T00:01:00"), 60);
        Probe.is("the last of an hour", p.date("2000-01-01T00:59:59"), 3599);
        Probe.is("the next hour", p.date("2000-01-01T01:00:00"), 3600);
        Probe.is("the last of a day", p.date("2000-01-01T23:59:59"), 86399);
        Probe.is("the next day", p.date("2000-01-02T00:00:00"), 86400);
    }

    /** Each month of each year: its first day and its last, and those that there are not. */
    private static void calendar() {
        Doc.says("Part II", "days are those of the Gregorian calendar, years 2000 .. 2059, of 86,400 seconds each");
        int day = 0;
        for (int year = 2000; year <= 2059; year++) {
            for (int month = 1; month <= 12; month++) {
                Probe p = new Probe();
                int days = daysIn(year, month);
                Probe.is(year + " " + month + " 0", p.date(text(year, month, 0, "00:00:00")), -1008);
                Probe.is(year + " " + month + " 1", p.date(text(year, month, 1, "00:00:00")), day * 86400);
                Probe.is(year + " " + month + " last", p.date(text(year, month, days, "23:59:59")), (day + days) * 86400 - 1);
                Probe.is(year + " " + month + " behind", p.date(text(year, month, days + 1, "00:00:00")), -1008);
                written(p, day * 86400, text(year, month, 1, "00:00:00"));
                written(p, (day + days) * 86400 - 1, text(year, month, days, "23:59:59"));
                day += days;
            }
        }
        Probe.is("all days", day * 86400, ALL);
    }

    private static void years() {
        Doc.says("CORNERS", "A year that there is not is WRONG at its first digit.");
        for (int year : new int[] {0, 999, 1000, 1900, 1999, 2060, 2099, 2100, 3000, 9999}) {
            Probe p = new Probe();
            Probe.is("year " + year, p.date(text(year, 1, 1, "00:00:00")), -1000);
            Probe.is("year " + year + " alone", p.date(String.format("%04d", year)), -1000);
            Probe.is("year " + year + " with a wrong month", p.date(String.format("%04d-13", year)), -1000);
            Probe.is("three digits of it", p.date(String.format("%04d", year).substring(0, 3)), -1003);
            Probe.is("and no digit", p.date(String.format("%04d", year).substring(0, 3) + "-"), -1003);
        }
        Probe p = new Probe();
        Probe.is("year 2000", p.date("2000"), -1004);
        Probe.is("year 2059", p.date("2059"), -1004);
        Probe.is("the last second", p.date("2059-12-31T23:59:59"), ALL - 1);
    }

    private static void leapDays() {
        Doc.says("Part II", "a day with a LEAP, the last one of a June or a December that was told, has one more, 23:59:60.");
        int day = 0;
        for (int year = 2000; year <= 2059; year++) {
            for (int month = 6; month <= 12; month += 6) {
                day += month == 6 ? 181 + (year % 4 == 0 ? 1 : 0) : 184;
                Probe p = new Probe();
                String last = text(year, month, month == 6 ? 30 : 31, "23:59:");
                Probe.is("not told yet", p.date(last + "60"), -1017);
                Probe.is("leap " + year + " " + month, p.house.leap(year, month), 1);
                Probe.is("59", p.date(last + "59"), day * 86400 - 1);
                Probe.is("60", p.date(last + "60"), day * 86400);
                Probe.is("61", p.date(last + "61"), -1017);
                written(p, day * 86400 - 1, last + "59");
                written(p, day * 86400, last + "60");
                String next = month == 6 ? text(year, 7, 1, "00:00:00") : text(year + 1, 1, 1, "00:00:00");
                if (day * 86400 < ALL) {
                    Probe.is("the next day", p.date(next), day * 86400 + 1);
                    written(p, day * 86400 + 1, next);
                } else {
                    Probe.is("no next day", p.house.written(ALL + 1), -1);
                }
                Probe.is("the other one of the year", p.date(text(year, 18 - month, month == 6 ? 31 : 30, "23:59:60")), -1017);
            }
        }
    }

    private static void leaps() {
        Doc.says("Promise 5", "A LEAP at the end of June (6) or December (12) of a year: how many there are.");
        Probe.is("the first there may be", new MissionHouse().leap(2000, 6), 1);
        Probe.is("the last there may be", new MissionHouse().leap(2059, 12), 1);
        Doc.says("Promise 5", "NONE if there is no such month or year, or it is not behind all that were told");
        for (int month : new int[] {Integer.MIN_VALUE, -6, -1, 0, 1, 5, 7, 11, 13, 18, 24, Integer.MAX_VALUE}) {
            Probe.is("month " + month, new MissionHouse().leap(2000, month), -1);
            Twins.refused("month " + month, Twins::busy, -1, house -> house.leap(2020, month));
        }
        Twins.beyond("June of", 2000, 2059, (house, year) -> house.leap(year, 6));
        Twins.beyond("December of", 2000, 2059, (house, year) -> house.leap(year, 12));
        Twins.refused("the latest once more", Twins::busy, -1, house -> house.leap(2003, 12));
        Twins.refused("ahead of the latest", Twins::busy, -1, house -> house.leap(2003, 6));
        Twins.refused("the one before", Twins::busy, -1, house -> house.leap(2001, 6));
        Twins.refused("ahead of all", Twins::busy, -1, house -> house.leap(2000, 6));
        Probe.is("the next one", Twins.busy().house.leap(2004, 6), 3);
        MissionHouse year = new MissionHouse();
        year.leap(2010, 6);
        Probe.is("the only one once more", year.leap(2010, 6), -1);
        Probe.is("ahead of the only one", year.leap(2009, 12), -1);
        Probe.is("of the same year", year.leap(2010, 12), 2);
        Probe.is("behind December", year.leap(2010, 6), -1);
    }

    private static void leapsFull() {
        Doc.says("Promise 5", "FULL (10).");
        Probe p = new Probe();
        for (int i = 1; i <= 10; i++) {
            Probe.is("leap " + i, p.house.leap(1999 + i, 6), i);
        }
        Probe.is("an eleventh", p.house.leap(2010, 6), -4);
        Probe.is("the tenth is there", p.date("2009-06-30T23:59:60") > 0 ? 1 : 0, 1);
        Probe.is("the eleventh is not", p.date("2010-06-30T23:59:60"), -1017);
        Probe.is("ten more", p.date("2059-12-31T23:59:59"), ALL + 9);
        Probe.is("one that is not behind them: NONE is told first", p.house.leap(2009, 6), -1);
        Probe.is("no such month: NONE is told first", p.house.leap(2010, 7), -1);
        Twins.refused("an eleventh", Twins::full, -4, house -> house.leap(2059, 12));
        Twins.refused("not behind them", Twins::full, -1, house -> house.leap(2017, 6));
    }

    private static void places() {
        Doc.says("Part II", "DATE: yyyy-mm-ddThh:mm:ss, of just these digits.");
        String right = "2047-11-29T13:38:46";
        for (int i = 0; i < 19; i++) {
            for (int b = 0; b < 256; b++) {
                boolean isDigit = b >= '0' && b <= '9';
                boolean fits = Character.isDigit(right.charAt(i)) ? isDigit : b == right.charAt(i);
                if (!fits) {
                    Probe.is("byte " + b + " at " + i, new Probe().date(right.substring(0, i) + (char) b + right.substring(i + 1)), -1000 - i);
                }
            }
            Probe.is("a digit less", new Probe().date(right.substring(0, i) + right.substring(i + 1)) <= -1000 ? 1 : 0, 1);
        }
        Probe.is("one byte more", new Probe().date(right + "0"), -1019);
        Probe.is("a year of two digits", new Probe().date("47-11-29T13:38:46"), -1002);
        Probe.is("a year of five digits", new Probe().date("02047-11-29T13:38:46"), -1000);
        Probe.is("a month of one digit", new Probe().date("2047-1-29T13:38:46"), -1006);
    }

    private static void wrong(String text, int place) {
        Probe.is("date " + text, new Probe().date(text), -1000 - place);
    }

    private static void rangesOfDates() {
        Doc.says("Promise 6", "WRONG (of these the first from the left: a byte that is none of its digits and signs: at itself,"
            + " whatever digits of its number are ahead");
        wrong("2000-9x-01T00:00:00", 6);
        wrong("2000-01-9xT00:00:00", 9);
        wrong("2000-01-01T9x:00:00", 12);
        wrong("2000-01-01T00:9x:00", 15);
        wrong("2000-01-01T00:00:9x", 18);
        wrong("999x-01-01T00:00:00", 3);
        wrong("2000-9", 6);
        wrong("2000-01-9", 9);
        wrong("2000-01-01T9", 12);
        wrong("2000-01-01T00:9", 15);
        wrong("2000-01-01T00:00:9", 18);
        wrong("2000-13-99T99:99:99", 5);
        wrong("2000-12-99T99:99:99x", 8);
        wrong("2000-12-31T99:99:99", 11);
        wrong("2000-12-31T23:99:99", 14);
        wrong("2000-12-31T23:59:99x", 17);
        wrong("2000-12-31T23:59:59x", 19);
        wrong("2060-x", 0);
        Doc.says("Promise 6", "a month, day, hour, minute or second that there is not, when its digits are there: at its first digit");
        wrong("2000-00", 5);
        wrong("2000-13", 5);
        wrong("2000-01-00", 8);
        wrong("2000-01-32", 8);
        wrong("2001-02-29", 8);
        wrong("2000-01-01T24", 11);
        wrong("2000-01-01T99", 11);
        wrong("2000-01-01T00:60", 14);
        wrong("2000-01-01T00:99", 14);
        wrong("2000-01-01T00:00:61", 17);
        wrong("2000-01-01T00:00:99", 17);
        wrong("2000-01", 7);
        wrong("2000-12", 7);
        wrong("2000-01-01", 10);
        wrong("2000-02-29", 10);
        wrong("2000-01-01T23", 13);
        wrong("2000-01-01T00:59", 16);
    }

    private static void sixty() {
        Doc.says("Promise 6", "60 but in a LEAP likewise).");
        wrong("2000-06-30T23:59:60", 17);
        Probe p = new Probe();
        p.house.leap(2000, 6);
        Probe.is("in a LEAP", p.date("2000-06-30T23:59:60"), 182 * 86400);
        for (String text : new String[] {"2000-06-30T23:58:60", "2000-06-30T22:59:60", "2000-06-29T23:59:60", "2000-07-01T23:59:60", "2000-06-30T00:00:60",
            "2000-05-31T23:59:60", "2000-12-31T23:59:60", "2001-06-30T23:59:60", "2000-06-30T23:59:61", "2000-06-30T23:59:70"}) {
            Probe.is(text, p.date(text), -1017);
        }
        Probe.is("no 60th minute by it", p.date("2000-06-30T23:60:00"), -1014);
        Probe.is("no 24th hour by it", p.date("2000-06-30T24:00:00"), -1011);
    }

    private static void written() {
        Doc.says("Promise 7", "The DATE of a second is written: 19; NONE if it is no second of these years.");
        Probe p = new Probe();
        written(p, 0, "2000-01-01T00:00:00");
        for (int second : new int[] {-1, ALL, Integer.MIN_VALUE, Integer.MAX_VALUE}) {
            Probe.is("written " + second, p.house.written(second), -1);
            Probe.is("nothing was written", p.out(), "2000-01-01T00:00:00");
            Probe.is("written " + second, new MissionHouse().written(second), -1);
        }
        written(p, ALL - 1, "2059-12-31T23:59:59");
        for (int hour = 0; hour < 24; hour++) {
            Probe q = new Probe();
            for (int second : new int[] {0, 1, 59, 60, 61, 3539, 3540, 3599}) {
                String time = String.format("%02d:%02d:%02d", hour, second / 60, second % 60);
                written(q, 86400 + hour * 3600 + second, "2000-01-02T" + time);
                Probe.is("and back", q.date("2000-01-02T" + time), 86400 + hour * 3600 + second);
            }
        }
        Twins.refused("below 0", Twins::busy, -1, house -> house.written(-1));
        Twins.refused("behind the last", Twins::busy, -1, house -> house.written(ALL + 2));
        Probe.is("the last, with two leaps", Twins.busy().house.written(ALL + 1), 19);
    }

    /** As many LEAPS as there may be, one behind the other, up to the end of the years. */
    private static void writtenLeaps() {
        Doc.says("Promise 7", "NONE if it is no second of these years.");
        Probe p = new Probe();
        for (int i = 0; i < 10; i++) {
            Probe.is("as yet", p.house.written(ALL + i), -1);
            p.house.leap(2055 + i / 2, i % 2 == 0 ? 6 : 12);
            Probe.is("one more", p.house.written(ALL + i), 19);
        }
        Probe.is("the last, a LEAP itself", p.out(), "2059-12-31T23:59:60");
        Probe.is("behind it", p.house.written(ALL + 10), -1);
        for (int i = 0; i < 10; i++) {
            String day = text(2055 + i / 2, i % 2 == 0 ? 6 : 12, i % 2 == 0 ? 30 : 31, "23:59:");
            for (int second = 58; second <= 60; second++) {
                int at = p.date(day + second);
                written(p, at, day + second);
            }
        }
    }
}
