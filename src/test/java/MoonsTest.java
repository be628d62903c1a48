/** Promises 43 to 51: moons, the sun and zones. */
public final class MoonsTest {
    private static final int[] FAR = {Integer.MIN_VALUE, Integer.MAX_VALUE};

    public static void main(String[] args) {
        setMoon();
        moon();
        setMoonAge();
        moonError();
        setEquation();
        sunTime();
        firstSlip();
        jumpZone();
        zone();
        zoneDates();
        Due.end();
    }

    private static void setMoon() {
        HorologeBench bench = new HorologeBench();
        Due.isChar("43: 5 at first", bench.setMoon('3'), '5');
        bench.setMoonAge(944);
        Due.isChar("43: before", bench.setMoon('3'), '3');
        Due.is("43: at the age 0", bench.moon(), 0);
        bench.setMoonAge(10);
        bench.setMoon('5');
        Due.is("43: the other one at the age 0", bench.moon(), 0);
        Due.throwing("43: no such wheel", IllegalArgumentException.class, () -> bench.setMoon('4'));
        bench.putIn(2);
        bench.putIn(8);
        Due.throwing("43: the motion work is in", UnsupportedOperationException.class, () -> bench.setMoon('3'));
        Due.throwing("43: the wheel first", IllegalArgumentException.class, () -> bench.setMoon((char) 5));
    }

    private static void moon() {
        HorologeBench bench = Watches.at(720);
        Due.is("44: at first", bench.moon(), 0);
        Watches.passMidnights(bench, 1);
        Due.is("44: a day", bench.moon(), 32);
        bench.setHands(-720);
        bench.setHands(-720);
        Due.is("44: back, it stays", bench.moon(), 32);
        bench.setMoonAge(912);
        Watches.passMidnights(bench, 1);
        Due.is("44: it comes round in 29 days and a half", bench.moon(), 0);
        bench.setMoonAge(943);
        Watches.passMidnights(bench, 1);
        Due.is("44: past its round", bench.moon(), 31);
        HorologeBench other = new HorologeBench();
        other.setMoon('3');
        Watches.complete(other);
        Watches.moveTo(other, 720);
        other.setMoonAge(912);
        Watches.passMidnights(other, 1);
        Due.is("44: the finer wheel is not yet round", other.moon(), 944);
        Watches.passMidnights(other, 1);
        Due.is("44: and then is", other.moon(), 31);
        other.setDate(20, 5, 0);
        Due.is("44: the correctors move no moon", other.moon(), 31);
    }

    private static void setMoonAge() {
        HorologeBench bench = new HorologeBench();
        Due.is("45: 0 at first", bench.setMoonAge(943), 0);
        Due.is("45: before", bench.setMoonAge(0), 943);
        Due.is("45: 0 again", bench.setMoonAge(5), 0);
        int[] wrong = {-1, 944, FAR[0], FAR[1]};
        for (int age : wrong) {
            Due.throwing("45: age " + age, IllegalArgumentException.class, () -> bench.setMoonAge(age));
        }
        Due.is("45: nothing has changed", bench.moon(), 5);
        bench.setMoon('3');
        Due.is("45: a part more", bench.setMoonAge(944), 0);
        Due.throwing("45: not two", IllegalArgumentException.class, () -> bench.setMoonAge(945));
    }

    private static void moonError() {
        HorologeBench bench = new HorologeBench();
        Due.is("46: at once", bench.moonError(0), 0);
        Due.is("46: a day", bench.moonError(1), 1);
        Due.is("46: ten years", bench.moonError(3650), 5444);
        Due.is("46: 59 days are two times 44 minutes", bench.moonError(59), 88);
        Due.is("46: the most", bench.moonError(100000), 149152);
        bench.setMoon('3');
        Due.is("46: the finer wheel, at once", bench.moonError(0), 0);
        Due.is("46: the finer wheel is behind, rounded down", bench.moonError(1), -1);
        Due.is("46: 945 days are 32 minutes", bench.moonError(945), -32);
        Due.is("46: a day more", bench.moonError(946), -33);
        int[] wrong = {-1, 100001, FAR[0], FAR[1]};
        for (int days : wrong) {
            Due.throwing("46: days " + days, IllegalArgumentException.class, () -> bench.moonError(days));
        }
    }

    private static void setEquation() {
        HorologeBench bench = new HorologeBench();
        for (int month = 1; month <= 12; month++) {
            Due.is("47: 0 at first " + month, bench.setEquation(month, month - 17), 0);
        }
        for (int month = 1; month <= 12; month++) {
            Due.is("47: before " + month, bench.setEquation(month, 17), month - 17);
        }
        int[] wrongMonths = {0, 13, FAR[0], FAR[1]};
        for (int month : wrongMonths) {
            Due.throwing("47: month " + month, IllegalArgumentException.class,
                    () -> bench.setEquation(month, 0));
        }
        int[] wrongMinutes = {-18, 18, FAR[0], FAR[1]};
        for (int minutes : wrongMinutes) {
            Due.throwing("47: minutes " + minutes, IllegalArgumentException.class,
                    () -> bench.setEquation(1, minutes));
        }
        Due.is("47: nothing has changed", bench.setEquation(1, 0), 17);
    }

    private static void sunTime() {
        HorologeBench bench = Watches.whole();
        Due.is("48: as the hands", bench.sunTime(), 0);
        bench.setEquation(1, -17);
        Due.is("48: behind midnight", bench.sunTime(), 86400 - 1020);
        bench.setEquation(2, 16);
        Watches.moveTo(bench, 1430);
        Due.is("48: behind the hands", bench.sunTime(), 85800 - 1020);
        bench.setHands(-30);
        bench.setHands(-600);
        bench.setDate(3, 2, 0);
        Due.is("48: by the month", bench.sunTime(), 800 * 60 + 960);
        bench.setHands(630);
        Due.is("48: past midnight", bench.sunTime(), 360);
        bench.setFault('b', true);
        Due.is("48: a bent hand tells no other time", bench.sunTime(), 360);
    }

    private static void firstSlip() {
        HorologeBench bench = new HorologeBench();
        Due.is("49: plain", bench.firstSlip(), 60);
        bench.setCalendar('a');
        Due.is("49: annual", bench.firstSlip(), 60);
        bench.setCalendar('q');
        Due.is("49: perpetual", bench.firstSlip(), 36584);
    }

    private static void jumpZone() {
        HorologeBench bench = new HorologeBench();
        Due.is("50: on", bench.jumpZone(3), 3);
        Due.is("50: not at all", bench.jumpZone(0), 3);
        Due.is("50: back", bench.jumpZone(-1), 2);
        for (int hours = 5; hours <= 14; hours += 3) {
            Due.is("50: to " + hours, bench.jumpZone(3), hours);
        }
        for (int hours = 1; hours <= 3; hours++) {
            int more = hours;
            Due.throwing("50: more than 14 ahead", UnsupportedOperationException.class,
                    () -> bench.jumpZone(more));
        }
        for (int hours = 11; hours >= -10; hours -= 3) {
            Due.is("50: to " + hours, bench.jumpZone(-3), hours);
        }
        Due.throwing("50: more than 12 behind", UnsupportedOperationException.class, () -> bench.jumpZone(-3));
        Due.is("50: just 12 behind", bench.jumpZone(-2), -12);
        Due.throwing("50: 13 behind", UnsupportedOperationException.class, () -> bench.jumpZone(-1));
        int[] wrong = {-4, 4, FAR[0], FAR[1]};
        for (int hours : wrong) {
            Due.throwing("50: hours " + hours, IllegalArgumentException.class, () -> bench.jumpZone(hours));
        }
    }

    private static void zone() {
        HorologeBench bench = Watches.at(1380);
        Due.is("51: with the hands", bench.zone('h'), 23);
        bench.jumpZone(1);
        Due.is("51: past midnight", bench.zone('h'), 0);
        Due.is("51: the next day", bench.zone('d'), 2);
        Due.is("51: the calendar stays", bench.calendar('d'), 1);
        bench.setHands(60);
        Due.is("51: the calendar has followed", bench.zone('d'), 2);
        Due.is("51: the hour goes on", bench.zone('h'), 1);
        bench.jumpZone(-2);
        Due.is("51: the last day", bench.zone('d'), 1);
        Due.is("51: its hour", bench.zone('h'), 23);
        Due.throwing("51: no such thing", IllegalArgumentException.class, () -> bench.zone('y'));
    }

    /** What the second zone shows beside a date, an hour past midnight on one side of it. */
    private static void zoneDates() {
        beside('p', 31, 2, 1, 3, 1, 3);
        beside('q', 28, 2, 1, 3, 1, 3);
        beside('q', 28, 2, 0, 3, 29, 2);
        beside('a', 31, 12, 3, 3, 1, 1);
        beside('q', 30, 4, 2, 3, 1, 5);
        beside('p', 30, 4, 2, 3, 31, 4);
        beside('p', 1, 3, 1, -3, 31, 2);
        beside('a', 1, 3, 1, -3, 30, 2);
        beside('q', 1, 3, 1, -3, 28, 2);
        beside('q', 1, 3, 0, -3, 29, 2);
        beside('q', 1, 1, 0, -3, 31, 12);
        beside('q', 1, 5, 0, -3, 30, 4);
        beside('q', 2, 5, 0, -3, 1, 5);
    }

    private static void beside(char kind, int day, int month, int year, int jump, int otherDay, int otherMonth) {
        HorologeBench bench = new HorologeBench();
        bench.setCalendar(kind);
        Watches.complete(bench);
        Watches.moveTo(bench, 720);
        bench.setDate(day, month, year);
        Watches.moveTo(bench, jump > 0 ? 690 : 30);
        if (jump > 0) {
            bench.setHands(690);
        }
        bench.jumpZone(jump);
        String what = "51: " + kind + " " + day + "." + month + "." + year + " by " + jump;
        Due.is(what + ", the day", bench.zone('d'), otherDay);
        Due.is(what + ", the month", bench.zone('m'), otherMonth);
        Due.is(what + ", the hour", bench.zone('h'), jump > 0 ? 2 : 21);
    }
}
