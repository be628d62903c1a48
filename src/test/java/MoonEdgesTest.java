/** Promises 43 to 51 at their edges: moons, the sun, calendars that slip, and zones. */
public final class MoonEdgesTest {
    public static void main(String[] args) {
        wheels();
        wheelWithTheMotionWorkOut();
        ageComesRound();
        ageOfManyDays();
        ageGoesOnAtMidnight();
        agesThatCanBeSet();
        errorsOfDays();
        errorRoundedDown();
        cams();
        camTwoNumbers();
        sunRoundMidnight();
        sunByTheMonth();
        slips();
        jumps();
        jumpsAtTheEnds();
        jumpTwoExceptions();
        zoneHours();
        zoneToTheSecond();
        zoneLetters();
        zoneDates();
        Due.end();
    }

    private static HorologeBench withMoon(char wheel) {
        HorologeBench bench = new HorologeBench();
        bench.setMoon(wheel);
        Watches.complete(bench);
        return Watches.moveTo(bench, 720);
    }

    private static void wheels() {
        for (char before : "53".toCharArray()) {
            for (char wheel : "53".toCharArray()) {
                HorologeBench bench = new HorologeBench();
                bench.setMoon(before);
                bench.setMoonAge(100);
                Due.isChar("43: " + before + " before " + wheel, bench.setMoon(wheel), before);
                Due.is("43: " + wheel + " behind " + before + " at the age 0", bench.moon(), 0);
                Due.isChar("43: " + wheel + " is chosen", bench.setMoon('5'), wheel);
            }
        }
        Refused.letters("43: wheel", "53", () -> Watches.busyWithout(9, 8), HorologeBench::setMoon);
        Refused.letters("43: wheel, with the motion work in", "53", Watches::busy, HorologeBench::setMoon);
    }

    private static void wheelWithTheMotionWorkOut() {
        for (char wheel : "53".toCharArray()) {
            Refused.unsupported("43: the motion work is in, " + wheel, () -> Watches.busyWithout(9),
                    it -> it.setMoon(wheel));
            Due.isChar("43: it is out, " + wheel, Watches.busyWithout(9, 8).setMoon(wheel), '3');
        }
    }

    private static void ageComesRound() {
        int[][] coarse = {{0, 32}, {911, 943}, {912, 0}, {913, 1}, {943, 31}};
        int[][] fine = {{0, 32}, {911, 943}, {912, 944}, {913, 0}, {914, 1}, {944, 31}};
        for (int[] age : coarse) {
            ageGoesOn('5', age[0], age[1]);
        }
        for (int[] age : fine) {
            ageGoesOn('3', age[0], age[1]);
        }
    }

    private static void ageGoesOn(char wheel, int age, int due) {
        HorologeBench bench = withMoon(wheel);
        bench.setMoonAge(age);
        bench.setHands(719);
        Due.is("44: " + wheel + " ahead of midnight, " + age, bench.moon(), age);
        bench.setHands(1);
        Due.is("44: " + wheel + " behind " + age, bench.moon(), due);
        bench.setHands(720);
        Due.is("44: " + wheel + " at noon, behind " + age, bench.moon(), due);
    }

    private static void ageOfManyDays() {
        HorologeBench coarse = withMoon('5');
        Watches.passMidnights(coarse, 29);
        Due.is("44: 29 days", coarse.moon(), 928);
        Watches.passMidnights(coarse, 1);
        Due.is("44: round in 29 days and a half", coarse.moon(), 16);
        Watches.passMidnights(coarse, 29);
        Due.is("44: twice round in 59 days", coarse.moon(), 0);
        HorologeBench fine = withMoon('3');
        Watches.passMidnights(fine, 29);
        Due.is("44: 29 days of the finer wheel", fine.moon(), 928);
        Watches.passMidnights(fine, 1);
        Due.is("44: round in 29 days and 17 parts", fine.moon(), 15);
        Watches.passMidnights(fine, 29);
        Due.is("44: 59 days of the finer wheel", fine.moon(), 943);
    }

    private static void ageGoesOnAtMidnight() {
        HorologeBench late = Watches.atLastSecond(1438);
        late.pass(1);
        Due.is("44: a second ahead of midnight", late.moon(), 0);
        late.pass(1);
        Due.is("44: past midnight", late.moon(), 32);
        late.setHands(-2);
        Due.is("44: back past midnight", late.moon(), 32);
        late.setHands(2);
        Due.is("44: on past midnight again", late.moon(), 64);
        Watches.moveTo(late, 720);
        late.setDate(9, 9, 3);
        Due.is("44: the correctors move no moon", late.moon(), 64);
    }

    private static void agesThatCanBeSet() {
        HorologeBench coarse = withMoon('5');
        Due.is("45: the greatest age", coarse.setMoonAge(943), 0);
        Due.is("45: it is told", coarse.setMoonAge(0), 943);
        Due.is("45: the least age", coarse.moon(), 0);
        Refused.outside("45: age of 5", 0, 943, () -> withMoon('5'), HorologeBench::setMoonAge);
        HorologeBench fine = withMoon('3');
        Due.is("45: the greatest age of 3", fine.setMoonAge(944), 0);
        Due.is("45: it is told of 3", fine.setMoonAge(0), 944);
        Refused.outside("45: age of 3", 0, 944, () -> withMoon('3'), HorologeBench::setMoonAge);
        Refused.outside("45: age, with the plate alone", 0, 943, HorologeBench::new, HorologeBench::setMoonAge);
    }

    private static void errorsOfDays() {
        for (char wheel : "53".toCharArray()) {
            HorologeBench bench = withMoon(wheel);
            Due.is("46: no days, " + wheel, bench.moonError(0), 0);
            Due.is("46: the most days, " + wheel, bench.moonError(100000), wheel == '5' ? 149152 : -3387);
            Refused.outside("46: days, " + wheel, 0, 100000, () -> withMoon(wheel), HorologeBench::moonError);
        }
    }

    private static void errorRoundedDown() {
        int[][] coarse = {{1, 1}, {2, 2}, {3, 4}, {58, 86}, {59, 88}, {60, 89}, {118, 176}};
        for (int[] days : coarse) {
            Due.is("46: days " + days[0], withMoon('5').moonError(days[0]), days[1]);
        }
        int[][] fine = {{1, -1}, {29, -1}, {30, -2}, {944, -32}, {945, -32}, {946, -33}, {1890, -64}};
        for (int[] days : fine) {
            Due.is("46: days of the finer wheel " + days[0], withMoon('3').moonError(days[0]), days[1]);
        }
        HorologeBench bench = withMoon('5');
        bench.setMoonAge(500);
        Due.is("46: whatever its age is", bench.moonError(59), 88);
    }

    private static void cams() {
        for (int month = 1; month <= 12; month++) {
            int ofYear = month;
            HorologeBench bench = new HorologeBench();
            Due.is("47: at first, month " + month, bench.setEquation(month, 17), 0);
            Due.is("47: the greatest, month " + month, bench.setEquation(month, -17), 17);
            Due.is("47: the least, month " + month, bench.setEquation(month, 1), -17);
            for (int other = 1; other <= 12; other++) {
                Due.is("47: of this month alone, " + month + " and " + other, bench.setEquation(other, 0),
                        other == month ? 1 : 0);
            }
            for (int minutes : new int[] {-18, 18, Integer.MIN_VALUE, Integer.MAX_VALUE}) {
                Refused.argument("47: minutes " + minutes + " of month " + month, Watches::busy,
                        it -> it.setEquation(ofYear, minutes));
            }
        }
        Refused.outside("47: month", 1, 12, Watches::busy, (it, month) -> it.setEquation(month, 2));
    }

    private static void camTwoNumbers() {
        Refused.argument("47: both below", Watches::busy, it -> it.setEquation(0, -18));
        Refused.argument("47: both above", Watches::busy, it -> it.setEquation(13, 18));
    }

    private static void sunRoundMidnight() {
        int[][] due = {{0, 0, 0}, {0, 17, 1020}, {0, -17, 85380}, {16, -17, 86340}, {17, -17, 0}, {18, -17, 60},
            {1422, 17, 86340}, {1423, 17, 0}, {1424, 17, 60}, {1439, 1, 0}, {1439, 17, 960}};
        for (int[] row : due) {
            HorologeBench bench = Watches.at(row[0]);
            bench.setEquation(1, row[1]);
            Due.is("48: at " + row[0] + " by " + row[1], bench.sunTime(), row[2]);
        }
        HorologeBench late = Watches.atLastSecond(1422);
        late.setEquation(1, 17);
        Due.is("48: the last second of the sun's day", late.sunTime(), 86399);
        late.setFault('b', true);
        Due.is("48: a bent hand tells no other time", late.sunTime(), 86399);
    }

    private static void sunByTheMonth() {
        HorologeBench bench = Watches.at(720);
        for (int month = 1; month <= 12; month++) {
            bench.setEquation(month, month);
        }
        for (int month = 1; month <= 12; month++) {
            bench.setDate(31, month, 1);
            Due.is("48: by month " + month, bench.sunTime(), 43200 + 60 * month);
            Watches.passMidnights(bench, 1);
            Due.is("48: behind month " + month, bench.sunTime(), 43200 + 60 * (month % 12 + 1));
        }
    }

    private static void slips() {
        int[] due = {60, 60, 36584};
        for (int kind = 0; kind < 3; kind++) {
            HorologeBench bench = Watches.busyWithout(9, 8);
            bench.setCalendar("paq".charAt(kind));
            Due.is("49: with parts out, " + kind, bench.firstSlip(), due[kind]);
            Watches.complete(bench);
            bench.setDate(28, 11, 3);
            Due.is("49: whatever it shows, " + kind, bench.firstSlip(), due[kind]);
        }
    }

    private static HorologeBench ahead(HorologeBench bench, int hours) {
        int left = hours;
        while (left != 0) {
            int step = Math.max(-3, Math.min(3, left));
            bench.jumpZone(step);
            left -= step;
        }
        return bench;
    }

    private static void jumps() {
        for (int hours = -3; hours <= 3; hours++) {
            HorologeBench bench = new HorologeBench();
            Due.is("50: by " + hours, bench.jumpZone(hours), hours);
            Due.is("50: by " + hours + " again", bench.jumpZone(hours), 2 * hours);
        }
        Refused.outside("50: hours", -3, 3, Watches::busy, HorologeBench::jumpZone);
        Refused.outside("50: hours, at the first end", -3, 3, () -> ahead(Watches.busy(), 17),
                HorologeBench::jumpZone);
    }

    private static void jumpsAtTheEnds() {
        for (int hours = 1; hours <= 3; hours++) {
            int jump = hours;
            Due.is("50: just 14 ahead by " + hours, ahead(new HorologeBench(), 14 - hours).jumpZone(hours), 14);
            Due.is("50: just 12 behind by " + hours, ahead(new HorologeBench(), hours - 12).jumpZone(-hours), -12);
            for (int beyond = 1; beyond <= hours; beyond++) {
                int more = beyond;
                Refused.unsupported("50: " + (14 + beyond) + " ahead by " + hours,
                        () -> ahead(Watches.at(0), 14 - jump + more), it -> it.jumpZone(jump));
                Refused.unsupported("50: " + (12 + beyond) + " behind by " + hours,
                        () -> ahead(Watches.at(0), jump - 12 - more), it -> it.jumpZone(-jump));
            }
        }
        Due.is("50: nowhere at the one end", ahead(new HorologeBench(), 14).jumpZone(0), 14);
        Due.is("50: nowhere at the other end", ahead(new HorologeBench(), -12).jumpZone(0), -12);
    }

    private static void jumpTwoExceptions() {
        Refused.argument("50: the number ahead of the first end", () -> ahead(Watches.at(0), 14),
                it -> it.jumpZone(4));
        Refused.argument("50: the number ahead of the other end", () -> ahead(Watches.at(0), -12),
                it -> it.jumpZone(-4));
    }

    private static void zoneHours() {
        for (int hours = -12; hours <= 14; hours++) {
            for (int hour = 0; hour <= 23; hour++) {
                HorologeBench bench = ahead(onDay(15, 5, 60 * hour), hours);
                int there = hour + hours;
                String what = "51: hour " + hour + " by " + hours;
                Due.is(what, bench.zone('h'), (there + 24) % 24);
                Due.is(what + ", the day", bench.zone('d'), there < 0 ? 14 : there > 23 ? 16 : 15);
                Due.is(what + ", the month", bench.zone('m'), 5);
            }
        }
    }

    /** A plain calendar on a day, at a minute to which the hands were turned back, or on by less than a day. */
    private static HorologeBench onDay(int day, int month, int minute) {
        HorologeBench bench = Watches.at(720);
        bench.setDate(day, month, 1);
        if (minute != 720) {
            bench.setHands(minute - 720);
        }
        return bench;
    }

    private static void zoneToTheSecond() {
        HorologeBench late = Watches.atLastSecond(1379);
        late.jumpZone(1);
        Due.is("51: a second ahead of midnight there", late.zone('h'), 23);
        Due.is("51: its day", late.zone('d'), 1);
        late.setHands(1);
        Due.is("51: past midnight there", late.zone('h'), 0);
        Due.is("51: the next day", late.zone('d'), 2);
        Due.is("51: the hands have it not passed", late.calendar('d'), 1);
        HorologeBench exact = onDay(15, 5, 1380);
        exact.jumpZone(1);
        Due.is("51: just at midnight there", exact.zone('h'), 0);
        Due.is("51: the next day there", exact.zone('d'), 16);
        HorologeBench behind = Watches.atLastSecond(59);
        behind.jumpZone(-1);
        Due.is("51: the last second of the last day", behind.zone('h'), 23);
        Due.is("51: it is the last one of the month before", behind.zone('d'), 31);
        Due.is("51: of month 12", behind.zone('m'), 12);
        behind.setHands(1);
        Due.is("51: this day there", behind.zone('d'), 1);
        Due.is("51: its first hour", behind.zone('h'), 0);
    }

    private static void zoneLetters() {
        Refused.letters("51: what", "hdm", Watches::busy, HorologeBench::zone);
    }

    private static void zoneDates() {
        for (char kind : "paq".toCharArray()) {
            for (int month = 1; month <= 12; month++) {
                for (int year = 0; year <= 3; year++) {
                    int next = month % 12 + 1;
                    int before = (month + 10) % 12 + 1;
                    int last = Watches.lastDay(kind, month, year);
                    int lastBefore = Watches.lastDay(kind, before, year);
                    beside(kind, last, month, year, 3, "1." + next);
                    beside(kind, last - 1, month, year, 3, last + "." + month);
                    beside(kind, 1, month, year, -3, lastBefore + "." + before);
                    beside(kind, 2, month, year, -3, "1." + month);
                    beside(kind, last, month, year, 0, last + "." + month);
                    beside(kind, 1, month, year, 0, "1." + month);
                }
            }
        }
    }

    private static void beside(char kind, int day, int month, int year, int hours, String due) {
        HorologeBench bench = new HorologeBench();
        bench.setCalendar(kind);
        Watches.complete(bench);
        Watches.moveTo(bench, 720);
        bench.setDate(day, month, year);
        bench.setHands(hours > 0 ? 700 : -700);
        bench.jumpZone(hours);
        Due.isTrue("51: " + kind + " " + day + "." + month + "." + year + " by " + hours + ", due is " + due,
                due.equals(bench.zone('d') + "." + bench.zone('m')));
        Due.isTrue("51: the calendar stays", Watches.date(bench).equals(day + "." + month + "." + year));
    }
}
