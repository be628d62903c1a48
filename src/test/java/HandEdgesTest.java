/** Promises 23 to 33 at their edges: hands, calendar, strike, repeater, alarm and chronograph. */
public final class HandEdgesTest {
    public static void main(String[] args) {
        minutesOfHands();
        handsWantAllParts();
        handsWantTheCrown();
        handsTwoExceptions();
        handsRoundMidnight();
        handsBack();
        handsRoundedDown();
        handsShown();
        bentHand();
        lettersOfHands();
        lastDays();
        yearsGoOn();
        midnightByGoing();
        midnightByTurning();
        dateNumbers();
        dateDays();
        dateHours();
        dateWantsTheCrown();
        dateTwoExceptions();
        hoursOfARack();
        mispinnedHours();
        hoursOfACountWheel();
        strikesToTheSecond();
        neverStruck();
        repeatsEachMinute();
        repeatsEachHour();
        repeatsBent();
        repeatWantsAllParts();
        alarmMinutes();
        alarmToTheSecond();
        alarmRound();
        alarmNotSet();
        Due.end();
    }

    private static void minutesOfHands() {
        Due.is("23: one on", Watches.whole().setHands(1), 1);
        Due.is("23: one back", Watches.whole().setHands(-1), 1439);
        Due.is("23: 720 on", Watches.whole().setHands(720), 720);
        Due.is("23: 720 back", Watches.whole().setHands(-720), 720);
        Refused.outside("23: minutes", -720, 720, Watches::busy, HorologeBench::setHands);
        Refused.argument("23: minutes 0", Watches::busy, it -> it.setHands(0));
    }

    private static void handsWantAllParts() {
        for (int part : new int[] {1, 7, 9}) {
            Refused.state("23: without part " + part, () -> Watches.busyWithout(part), it -> it.setHands(600));
            Refused.state("23: back, without part " + part, () -> Watches.busyWithout(part), it -> it.setHands(-60));
        }
        Refused.state("23: with the plate alone", HorologeBench::new, it -> it.setHands(720));
    }

    private static void handsWantTheCrown() {
        Due.is("23: without a crown", Watches.busyWithCrown(-1).setHands(1), 528);
        Due.is("23: the crown sets the hands", Watches.busyWithCrown(2).setHands(1), 528);
        Refused.state("23: the crown winds", () -> Watches.busyWithCrown(0), it -> it.setHands(720));
        Refused.state("23: the crown sets the date", () -> Watches.busyWithCrown(1), it -> it.setHands(-720));
    }

    private static void handsTwoExceptions() {
        Refused.argument("23: 0, not whole", HorologeBench::new, it -> it.setHands(0));
        Refused.argument("23: 721, not whole", HorologeBench::new, it -> it.setHands(721));
        Refused.argument("23: 0, by the wrong crown", () -> Watches.busyWithCrown(1), it -> it.setHands(0));
        Refused.argument("23: -721, by the wrong crown", () -> Watches.busyWithCrown(0), it -> it.setHands(-721));
    }

    private static void handsRoundMidnight() {
        Due.is("23: to the last minute", Watches.at(1438).setHands(1), 1439);
        Due.is("23: to midnight", Watches.at(1439).setHands(1), 0);
        Due.is("23: past midnight", Watches.at(1439).setHands(2), 1);
        Due.is("23: back to midnight", Watches.at(1).setHands(-1), 0);
        Due.is("23: back past midnight", Watches.at(0).setHands(-1), 1439);
        Due.is("23: back past midnight as far as can be", Watches.at(719).setHands(-720), 1439);
    }

    private static void handsBack() {
        HorologeBench bench = Watches.at(1);
        bench.setAlarm(1380);
        bench.setMoonAge(5);
        bench.setHands(-720);
        Due.is("23: back, nothing strikes", bench.strikes(), 0);
        Due.is("23: back, nothing rings", bench.rings(), 0);
        Due.isTrue("23: back, no date goes on", Watches.date(bench).equals("1.1.0"));
        Due.is("23: back, no moon goes on", bench.moon(), 5);
        bench.setHands(720);
        Due.is("23: on again, all hours strike", bench.strikes(), 78);
        Due.is("23: on again, it rings", bench.rings(), 1);
        Due.isTrue("23: on again, the date goes on", Watches.date(bench).equals("2.1.0"));
        Due.is("23: on again, the moon goes on", bench.moon(), 37);
    }

    private static void handsRoundedDown() {
        HorologeBench bench = Watches.atLastSecond(100);
        Due.is("23: with 59 seconds, rounded down", bench.setHands(1), 101);
        Due.is("23: back with 59 seconds, rounded down", bench.setHands(-102), 1439);
        Due.is("23: the seconds stay", bench.shows('s'), 59);
    }

    private static void handsShown() {
        int[][] due = {{0, 0, 0}, {1, 0, 1}, {59, 0, 59}, {60, 1, 0}, {719, 11, 59}, {720, 0, 0}, {721, 0, 1},
            {779, 0, 59}, {780, 1, 0}, {1439, 11, 59}};
        for (int[] time : due) {
            HorologeBench bench = Watches.at(time[0]);
            Due.is("24: the hour at " + time[0], bench.shows('h'), time[1]);
            Due.is("24: the minute at " + time[0], bench.shows('m'), time[2]);
            Due.is("24: the second at " + time[0], bench.shows('s'), 0);
            Due.is("24: the time at " + time[0], bench.shows('d'), 60 * time[0]);
            HorologeBench late = Watches.atLastSecond(time[0]);
            Due.is("24: the hour at the end of " + time[0], late.shows('h'), time[1]);
            Due.is("24: the minute at the end of " + time[0], late.shows('m'), time[2]);
            Due.is("24: the second at the end of " + time[0], late.shows('s'), 59);
            Due.is("24: the time at the end of " + time[0], late.shows('d'), 60 * time[0] + 59);
        }
    }

    private static void bentHand() {
        int[][] due = {{0, 5}, {54, 59}, {55, 0}, {56, 1}, {59, 4}, {1435, 0}, {1439, 4}};
        for (int[] time : due) {
            HorologeBench bench = Watches.at(time[0]);
            bench.setFault('b', true);
            Due.is("24: bent, at " + time[0], bench.shows('m'), time[1]);
            Due.is("24: bent, the hour at " + time[0], bench.shows('h'), time[0] / 60 % 12);
            Due.is("24: bent, the time at " + time[0], bench.shows('d'), 60 * time[0]);
            bench.setFault('b', false);
            Due.is("24: no longer bent, at " + time[0], bench.shows('m'), time[0] % 60);
        }
        HorologeBench late = Watches.atLastSecond(54);
        late.setFault('b', true);
        Due.is("24: bent, at the end of 54", late.shows('m'), 59);
        Due.is("24: bent, the seconds are not", late.shows('s'), 59);
    }

    private static void lettersOfHands() {
        Refused.letters("24: hand", "hmsd", Watches::busy, HorologeBench::shows);
        Refused.letters("25: what", "dmy", Watches::busy, HorologeBench::calendar);
    }

    private static HorologeBench dated(char kind, int day, int month, int year) {
        HorologeBench bench = new HorologeBench();
        bench.setCalendar(kind);
        Watches.complete(bench);
        Watches.moveTo(bench, 1200);
        bench.setDate(day, month, year);
        return bench;
    }

    /** The date behind each last day, and behind each one ahead of a last day. */
    private static void lastDays() {
        for (char kind : "paq".toCharArray()) {
            for (int month = 1; month <= 12; month++) {
                for (int year = 0; year <= 3; year++) {
                    int last = Watches.lastDay(kind, month, year);
                    int nextYear = month < 12 ? year : (year + 1) % 4;
                    goesOn(kind, last - 1, month, year, last + "." + month + "." + year);
                    goesOn(kind, last, month, year, "1." + (month % 12 + 1) + "." + nextYear);
                }
            }
        }
    }

    private static void goesOn(char kind, int day, int month, int year, String due) {
        HorologeBench bench = dated(kind, day, month, year);
        bench.setHands(239);
        Due.isTrue("25: not yet midnight", Watches.date(bench).equals(day + "." + month + "." + year));
        bench.setHands(1);
        Due.isTrue("25: " + kind + " behind " + day + "." + month + "." + year, Watches.date(bench).equals(due));
    }

    private static void yearsGoOn() {
        for (int year = 0; year <= 3; year++) {
            HorologeBench bench = dated('q', 30, 12, year);
            Watches.passMidnights(bench, 1);
            Due.is("25: the year stays to its end, " + year, bench.calendar('y'), year);
            Watches.passMidnights(bench, 1);
            Due.is("25: the year goes on, " + year, bench.calendar('y'), year == 3 ? 0 : year + 1);
            Due.is("25: in month 1, " + year, bench.calendar('m'), 1);
        }
    }

    private static void midnightByGoing() {
        HorologeBench exact = Watches.moveTo(Watches.windTo(Watches.whole(), 1439), 1438);
        exact.pass(1);
        Due.is("25: a minute ahead of midnight", exact.calendar('d'), 1);
        exact.pass(1);
        Due.is("25: just to midnight, as it goes", exact.calendar('d'), 2);
        Due.is("25: the hands at midnight", exact.shows('d'), 0);
        exact.pass(1);
        Due.is("25: and once", exact.calendar('d'), 2);
        HorologeBench late = Watches.atLastSecond(1438);
        late.pass(1);
        Due.is("25: a second ahead of midnight", late.calendar('d'), 1);
        Due.is("25: the last second of the day", late.shows('d'), 86399);
        late.pass(1);
        Due.is("25: past midnight, as it goes", late.calendar('d'), 2);
        Due.is("25: the hands past midnight", late.shows('d'), 59);
    }

    private static void midnightByTurning() {
        HorologeBench bench = Watches.at(720);
        bench.setHands(719);
        Due.is("25: a minute ahead of midnight", bench.calendar('d'), 1);
        bench.setHands(-719);
        bench.setHands(720);
        Due.is("25: just to midnight", bench.calendar('d'), 2);
        bench.setHands(720);
        Due.is("25: to noon", bench.calendar('d'), 2);
        bench.setHands(-720);
        bench.setHands(-1);
        bench.setHands(1);
        Due.is("25: turned on past midnight once more", bench.calendar('d'), 3);
    }

    private static HorologeBench byDay(char kind) {
        HorologeBench bench = dated(kind, 17, 5, 2);
        bench.wind(8);
        return bench;
    }

    private static void dateNumbers() {
        HorologeBench bench = byDay('p');
        Due.is("26: the least numbers", bench.setDate(1, 1, 0), 17);
        Due.isTrue("26: stand", Watches.date(bench).equals("1.1.0"));
        Due.is("26: the greatest numbers", bench.setDate(31, 12, 3), 1);
        Due.isTrue("26: stand too", Watches.date(bench).equals("31.12.3"));
        for (char kind : "paq".toCharArray()) {
            Refused.outside("26: day, " + kind, 1, 31, () -> byDay(kind), (it, day) -> it.setDate(day, 1, 0));
            Refused.outside("26: month, " + kind, 1, 12, () -> byDay(kind), (it, month) -> it.setDate(1, month, 0));
            Refused.outside("26: year, " + kind, 0, 3, () -> byDay(kind), (it, year) -> it.setDate(1, 1, year));
        }
    }

    private static void dateDays() {
        for (char kind : "paq".toCharArray()) {
            for (int month = 1; month <= 12; month++) {
                for (int year = 0; year <= 3; year++) {
                    int last = Watches.lastDay(kind, month, year);
                    int ofMonth = month;
                    int ofYear = year;
                    String what = "26: " + kind + " " + month + "." + year;
                    HorologeBench bench = byDay(kind);
                    Due.is(what + ", the last day", bench.setDate(last, month, year), 17);
                    Due.is(what + ", it stands", bench.calendar('d'), last);
                    Refused.argument(what + ", a day more", () -> byDay(kind),
                            it -> it.setDate(last + 1, ofMonth, ofYear));
                    Refused.argument(what + ", no day", () -> byDay(kind), it -> it.setDate(0, ofMonth, ofYear));
                }
            }
        }
    }

    private static void dateHours() {
        Due.is("26: at 3 hours", Watches.at(180).setDate(2, 2, 2), 1);
        Due.is("26: in the last second ahead of 21 hours", Watches.atLastSecond(1259).setDate(2, 2, 2), 1);
        Due.is("26: at noon", Watches.at(720).setDate(2, 2, 2), 1);
        for (int minute : new int[] {0, 1, 179, 1260, 1261, 1439}) {
            Refused.unsupported("26: at " + minute, () -> Watches.at(minute), it -> it.setDate(2, 2, 2));
        }
        Refused.unsupported("26: in the last second ahead of 3 hours", () -> Watches.atLastSecond(179),
                it -> it.setDate(2, 2, 2));
        Refused.unsupported("26: on the bare bench, at 0", HorologeBench::new, it -> it.setDate(1, 1, 0));
        HorologeBench bent = Watches.at(1258);
        bent.setFault('b', true);
        Due.is("26: the hour is not bent", bent.setDate(2, 2, 2), 1);
    }

    private static void dateWantsTheCrown() {
        Due.is("26: without a crown", Watches.busyWithCrown(-1).setDate(29, 2, 0), 27);
        Due.is("26: the crown sets the date", Watches.busyWithCrown(1).setDate(29, 2, 0), 27);
        Refused.state("26: the crown winds", () -> Watches.busyWithCrown(0), it -> it.setDate(29, 2, 0));
        Refused.state("26: the crown sets the hands", () -> Watches.busyWithCrown(2), it -> it.setDate(29, 2, 0));
        Due.is("26: not all parts are wanted", Watches.busyWithout(9).setDate(29, 2, 0), 27);
    }

    private static HorologeBench byNight(int crown) {
        HorologeBench bench = Watches.at(1300);
        bench.crown(crown);
        return bench;
    }

    private static void dateTwoExceptions() {
        Refused.argument("26: the day ahead of the night", () -> byNight(-1), it -> it.setDate(32, 1, 0));
        Refused.argument("26: the month ahead of the night", () -> byNight(1), it -> it.setDate(1, 0, 0));
        Refused.argument("26: the year ahead of the night", () -> byNight(1), it -> it.setDate(1, 1, 4));
        Refused.argument("26: the day ahead of the crown", () -> Watches.busyWithCrown(0), it -> it.setDate(30, 2, 0));
        Refused.argument("26: the number ahead of both", () -> byNight(2), it -> it.setDate(0, 1, 0));
        Refused.unsupported("26: the night ahead of the crown", () -> byNight(0), it -> it.setDate(1, 1, 0));
        Refused.unsupported("26: the night ahead of the other crown", () -> byNight(2), it -> it.setDate(1, 1, 0));
    }

    private static void hoursOfARack() {
        HorologeBench bench = Watches.whole();
        int blows = 0;
        for (int hour = 1; hour <= 25; hour++) {
            bench.setHands(59);
            Due.is("27: ahead of hour " + hour, bench.strikes(), blows);
            bench.setHands(1);
            blows += Watches.onTwelve(hour);
            Due.is("28: hour " + hour, bench.lastStrike(), Watches.onTwelve(hour));
            Due.is("27: just to hour " + hour, bench.strikes(), blows);
        }
        bench.setHands(720);
        Due.is("27: twelve hours at once", bench.strikes(), blows + 78);
        Due.is("28: the last of them", bench.lastStrike(), 1);
    }

    private static void mispinnedHours() {
        HorologeBench bench = Watches.whole();
        bench.setFault('m', true);
        for (int hour = 1; hour <= 24; hour++) {
            bench.setHands(60);
            Due.is("28: mispinned, hour " + hour, bench.lastStrike(), Watches.onTwelve(hour) + 1);
        }
        Due.is("27: one more for each", bench.strikes(), 156 + 24);
        bench.setFault('m', false);
        bench.setHands(60);
        Due.is("28: pinned again", bench.lastStrike(), 1);
    }

    private static HorologeBench countWheel() {
        HorologeBench bench = new HorologeBench();
        bench.setStrike('w');
        return Watches.complete(bench);
    }

    private static void hoursOfACountWheel() {
        HorologeBench bench = countWheel();
        bench.setHands(-400);
        for (int strike = 1; strike <= 25; strike++) {
            bench.setHands(60);
            Due.is("28: the wheel, strike " + strike, bench.lastStrike(), Watches.onTwelve(strike));
            bench.setHands(-1);
            bench.setHands(1);
        }
        HorologeBench mispinned = countWheel();
        mispinned.setFault('m', true);
        mispinned.setHands(720);
        Due.is("28: a wheel has no snail", mispinned.lastStrike(), 12);
        mispinned.setHands(60);
        Due.is("28: 1 behind 12", mispinned.lastStrike(), 1);
        Due.is("27: as many as the wheel has", mispinned.strikes(), 79);
    }

    private static void strikesToTheSecond() {
        HorologeBench late = Watches.atLastSecond(58);
        late.pass(1);
        Due.is("27: a second ahead of the hour", late.strikes(), 0);
        late.pass(1);
        Due.is("27: past the hour", late.strikes(), 1);
        late.pass(1);
        Due.is("27: once", late.strikes(), 1);
        HorologeBench exact = Watches.windTo(Watches.whole(), 1439);
        Watches.moveTo(exact, 59);
        int before = exact.strikes();
        exact.pass(1);
        Due.is("27: just to the hour, as it goes", exact.strikes(), before + 1);
        exact.pass(1);
        Due.is("27: on from the hour", exact.strikes(), before + 1);
        HorologeBench twice = Watches.at(59);
        twice.setHands(1);
        twice.setHands(-1);
        twice.setHands(1);
        Due.is("27: again, if it is turned to it again", twice.strikes(), 2);
    }

    private static void neverStruck() {
        HorologeBench bench = Watches.whole();
        bench.setHands(59);
        Due.throwing("28: never yet", java.util.NoSuchElementException.class, bench::lastStrike);
        bench.setHands(1);
        Due.is("28: the first strike", bench.lastStrike(), 1);
        Refused.none("28: it never struck", HorologeBench::new, HorologeBench::lastStrike);
        Refused.none("28: nor by turning back", () -> Watches.at(720), HorologeBench::lastStrike);
    }

    private static void repeatsEachMinute() {
        int[][] due = {{0, 0}, {1, 1}, {14, 14}, {15, 100}, {16, 101}, {29, 114}, {30, 200}, {44, 214}, {45, 300},
            {59, 314}};
        for (int[] minute : due) {
            Due.is("29: the minute " + minute[0], Watches.at(240 + minute[0]).repeat(), 40000 + minute[1]);
            Due.is("29: the end of minute " + minute[0], Watches.atLastSecond(240 + minute[0]).repeat(),
                    40000 + minute[1]);
        }
    }

    private static void repeatsEachHour() {
        for (int hour = 0; hour <= 23; hour++) {
            Due.is("29: the hour " + hour, Watches.at(60 * hour).repeat(), 10000 * Watches.onTwelve(hour));
            Due.is("29: to the end of hour " + hour, Watches.atLastSecond(60 * hour + 59).repeat(),
                    10000 * Watches.onTwelve(hour) + 314);
        }
        HorologeBench bench = Watches.at(180);
        int blows = bench.strikes();
        bench.repeat();
        Due.is("29: no blows of the strike", bench.strikes(), blows);
        Due.throwing("29: nor a strike", java.util.NoSuchElementException.class, bench::lastStrike);
    }

    private static void repeatsBent() {
        int[][] due = {{0, 5}, {9, 14}, {10, 100}, {54, 314}, {55, 0}, {59, 4}};
        for (int[] minute : due) {
            HorologeBench bench = Watches.at(660 + minute[0]);
            bench.setFault('b', true);
            Due.is("29: bent, the minute " + minute[0], bench.repeat(), 110000 + minute[1]);
        }
    }

    private static void repeatWantsAllParts() {
        for (int part : new int[] {1, 7, 9}) {
            Refused.state("29: without part " + part, () -> Watches.busyWithout(part), HorologeBench::repeat);
        }
        Refused.state("29: with the plate alone", HorologeBench::new, HorologeBench::repeat);
        Due.is("29: unwound", Watches.whole().repeat(), 120000);
    }

    private static void alarmMinutes() {
        HorologeBench bench = new HorologeBench();
        Due.is("30: not set", bench.setAlarm(0), -1);
        Due.is("30: the first minute", bench.setAlarm(1439), 0);
        Due.is("30: the last minute", bench.setAlarm(-1), 1439);
        Due.is("30: taken off", bench.setAlarm(-1), -1);
        Refused.outside("30: minute", -1, 1439, Watches::busy, HorologeBench::setAlarm);
        Refused.outside("30: minute, not set", -1, 1439, HorologeBench::new, HorologeBench::setAlarm);
    }

    private static void alarmToTheSecond() {
        HorologeBench late = Watches.atLastSecond(38);
        late.setAlarm(40);
        late.pass(1);
        Due.is("31: a second ahead of it", late.rings(), 0);
        late.pass(1);
        Due.is("31: past it", late.rings(), 1);
        late.pass(1);
        Due.is("31: once", late.rings(), 1);
        HorologeBench exact = Watches.windTo(Watches.whole(), 1439);
        Watches.moveTo(exact, 38);
        exact.setAlarm(40);
        exact.pass(1);
        Due.is("31: a minute ahead of it", exact.rings(), 0);
        exact.pass(1);
        Due.is("31: just to it", exact.rings(), 1);
        exact.pass(1);
        Due.is("31: on from it", exact.rings(), 1);
    }

    private static void alarmRound() {
        for (int minute : new int[] {0, 1, 719, 720, 1438, 1439}) {
            HorologeBench bench = Watches.at((minute + 1439) % 1440);
            bench.setAlarm(minute);
            bench.setHands(1);
            Due.is("31: just to " + minute, bench.rings(), 1);
            bench.setHands(720);
            bench.setHands(719);
            Due.is("31: nearly round from " + minute, bench.rings(), 1);
            bench.setHands(1);
            Due.is("31: round to " + minute, bench.rings(), 2);
            bench.setHands(-720);
            bench.setHands(720);
            Due.is("31: back and on to " + minute, bench.rings(), 3);
        }
        HorologeBench here = Watches.at(600);
        here.setAlarm(600);
        Due.is("31: set to what the hands show", here.rings(), 0);
        here.setHands(1);
        Due.is("31: they only leave it", here.rings(), 0);
    }

    private static void alarmNotSet() {
        HorologeBench bench = Watches.at(1439);
        bench.setHands(720);
        bench.setHands(720);
        Due.is("31: not set", bench.rings(), 0);
        bench.setAlarm(0);
        bench.setAlarm(-1);
        bench.setHands(1);
        Due.is("31: taken off", bench.rings(), 0);
    }
}
