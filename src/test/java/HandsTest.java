import java.util.NoSuchElementException;

/** Promises 23 to 33: hands, calendar, strike, repeater, alarm and chronograph. */
public final class HandsTest {
    private static final int[] FAR = {Integer.MIN_VALUE, Integer.MAX_VALUE};

    public static void main(String[] args) {
        setHands();
        shows();
        calendar();
        annualAndPerpetual();
        setDate();
        strikes();
        lastStrike();
        repeat();
        setAlarm();
        rings();
        push();
        chronograph();
        Due.end();
    }

    private static void setHands() {
        HorologeBench bench = Watches.whole();
        Due.is("23: on", bench.setHands(61), 61);
        Due.is("23: past an hour it strikes", bench.strikes(), 1);
        Due.is("23: back", bench.setHands(-1), 60);
        Due.is("23: back past midnight", bench.setHands(-61), 1439);
        Due.is("23: back, nothing goes on", bench.calendar('d'), 1);
        Due.is("23: back, nothing strikes", bench.strikes(), 1);
        Due.is("23: on to midnight", bench.setHands(1), 0);
        Due.is("23: the calendar goes on", bench.calendar('d'), 2);
        Due.is("23: midnight strikes", bench.lastStrike(), 12);
        Due.is("23: as far as can be", bench.setHands(720), 720);
        Due.is("23: back as far", bench.setHands(-720), 0);
        HorologeBench odd = Watches.wound(1);
        odd.pass(1);
        Due.is("23: rounded down", odd.setHands(5), 5);
        int[] wrong = {0, 721, -721, FAR[0], FAR[1]};
        for (int minutes : wrong) {
            Due.throwing("23: minutes " + minutes, IllegalArgumentException.class,
                    () -> bench.setHands(minutes));
        }
        HorologeBench bare = new HorologeBench();
        Due.throwing("23: not whole", IllegalStateException.class, () -> bare.setHands(1));
        Due.throwing("23: the number first", IllegalArgumentException.class, () -> bare.setHands(0));
        bench.crown(0);
        Due.throwing("23: the crown winds", IllegalStateException.class, () -> bench.setHands(1));
        bench.crown(1);
        Due.throwing("23: the crown sets the date", IllegalStateException.class, () -> bench.setHands(1));
        bench.crown(2);
        Due.is("23: the crown sets the hands", bench.setHands(1), 1);
        Due.is("23: turning by hand is not going", bench.turned(), 0);
    }

    private static void shows() {
        HorologeBench bench = Watches.wound(1);
        bench.setHands(720);
        bench.setHands(598);
        bench.pass(1);
        Due.is("24: the day", bench.shows('d'), (720 + 598) * 60 + 59);
        Due.is("24: the hour of 12", bench.shows('h'), 9);
        Due.is("24: the minute", bench.shows('m'), 58);
        Due.is("24: the second", bench.shows('s'), 59);
        bench.setFault('b', true);
        Due.is("24: the bent hand begins anew", bench.shows('m'), 3);
        Due.is("24: the hour is not bent", bench.shows('h'), 9);
        Due.is("24: the time is not bent", bench.shows('d'), (720 + 598) * 60 + 59);
        HorologeBench noon = Watches.at(720);
        Due.is("24: noon", noon.shows('h'), 0);
        noon.setFault('b', true);
        Due.is("24: bent at noon", noon.shows('m'), 5);
        Due.throwing("24: no such hand", IllegalArgumentException.class, () -> bench.shows('x'));
        Due.throwing("24: a great letter", IllegalArgumentException.class, () -> bench.shows('H'));
    }

    private static void calendar() {
        HorologeBench bench = Watches.at(720);
        Due.isTrue("25: at first", Watches.date(bench).equals("1.1.0"));
        bench.setDate(30, 2, 1);
        Watches.passMidnights(bench, 1);
        Due.isTrue("25: plain February has 31", Watches.date(bench).equals("31.2.1"));
        Watches.passMidnights(bench, 1);
        Due.isTrue("25: the next month", Watches.date(bench).equals("1.3.1"));
        bench.setDate(31, 12, 2);
        Watches.passMidnights(bench, 1);
        Due.isTrue("25: the next year", Watches.date(bench).equals("1.1.3"));
        bench.setDate(31, 12, 3);
        Watches.passMidnights(bench, 1);
        Due.isTrue("25: the year behind 3", Watches.date(bench).equals("1.1.0"));
        Due.throwing("25: no such thing", IllegalArgumentException.class, () -> bench.calendar('h'));
    }

    private static void annualAndPerpetual() {
        int[] annual = {31, 30, 31, 30, 31, 30, 31, 31, 30, 31, 30, 31};
        int[] perpetual = {31, 28, 31, 30, 31, 30, 31, 31, 30, 31, 30, 31};
        for (int month = 1; month <= 12; month++) {
            for (int year = 0; year <= 3; year++) {
                int leap = month == 2 && year == 0 ? 1 : 0;
                lastDayIs('p', month, year, 31);
                lastDayIs('a', month, year, annual[month - 1]);
                lastDayIs('q', month, year, perpetual[month - 1] + leap);
            }
        }
    }

    private static void lastDayIs(char kind, int month, int year, int last) {
        HorologeBench bench = new HorologeBench();
        bench.setCalendar(kind);
        Watches.complete(bench);
        Watches.moveTo(bench, 1200);
        String what = "25, 26: " + kind + " " + month + "." + year;
        Due.throwing(what + " is longer", IllegalArgumentException.class,
                () -> bench.setDate(last + 1, month, year));
        bench.setDate(last - 1, month, year);
        bench.setHands(300);
        Due.is(what + " goes on to its last day", bench.calendar('d'), last);
        Watches.moveTo(bench, 1200);
        Due.is(what + " may be set to its last day", bench.setDate(last, month, year), last);
        bench.setHands(300);
        Due.is(what + " begins anew", bench.calendar('d'), 1);
        Due.is(what + " in the next month", bench.calendar('m'), month % 12 + 1);
    }

    private static void setDate() {
        HorologeBench bench = Watches.at(180);
        Due.is("26: at three", bench.setDate(5, 6, 1), 1);
        Due.is("26: the day before", bench.setDate(31, 12, 3), 5);
        Due.isTrue("26: the date", Watches.date(bench).equals("31.12.3"));
        int[][] wrong = {{0, 1, 0}, {32, 1, 0}, {1, 0, 0}, {1, 13, 0}, {1, 1, -1}, {1, 1, 4},
            {FAR[0], 1, 0}, {1, FAR[1], 0}, {1, 1, FAR[0]}, {FAR[1], FAR[0], FAR[1]}};
        for (int[] date : wrong) {
            Due.throwing("26: " + date[0] + "." + date[1] + "." + date[2], IllegalArgumentException.class,
                    () -> bench.setDate(date[0], date[1], date[2]));
        }
        Watches.moveTo(bench, 179);
        Due.throwing("26: ahead of three", UnsupportedOperationException.class, () -> bench.setDate(1, 1, 0));
        Due.throwing("26: the numbers first", IllegalArgumentException.class, () -> bench.setDate(1, 13, 0));
        Watches.moveTo(bench, 1260);
        Due.throwing("26: at 21", UnsupportedOperationException.class, () -> bench.setDate(1, 1, 0));
        bench.crown(0);
        Due.throwing("26: the night first", UnsupportedOperationException.class, () -> bench.setDate(1, 1, 0));
        bench.crown(2);
        bench.setHands(-1);
        Due.throwing("26: the crown sets the hands", IllegalStateException.class, () -> bench.setDate(1, 1, 0));
        bench.crown(0);
        Due.throwing("26: the crown winds", IllegalStateException.class, () -> bench.setDate(1, 1, 0));
        bench.crown(1);
        Due.is("26: the crown sets the date", bench.setDate(1, 1, 0), 31);
        bench.crown(-1);
        bench.takeOut(9);
        Due.is("26: not whole", bench.setDate(2, 1, 0), 1);
    }

    private static void strikes() {
        HorologeBench bench = Watches.whole();
        Due.is("27: none at first", bench.strikes(), 0);
        bench.setHands(59);
        Due.is("27: ahead of the hour", bench.strikes(), 0);
        bench.setHands(1);
        Due.is("27: just to the hour", bench.strikes(), 1);
        bench.setHands(1);
        Due.is("27: leaving the hour", bench.strikes(), 1);
        bench.setHands(660);
        Due.is("27: eleven hours", bench.strikes(), 78);
        bench.setHands(718);
        Due.is("27: to a minute ahead of midnight", bench.strikes(), 78 + 66);
        bench.setHands(2);
        Due.is("27: midnight", bench.strikes(), 78 + 78);
        HorologeBench going = Watches.wound(8);
        going.pass(2000);
        Due.is("27: strikes as it goes", going.strikes(), 78 + 78 + 45);
        Due.is("27: the repeater does not count", going.repeat() > 0 ? going.strikes() : -1, 201);
    }

    private static void lastStrike() {
        HorologeBench bench = Watches.whole();
        Due.throwing("28: never", NoSuchElementException.class, bench::lastStrike);
        bench.setHands(-60);
        Due.throwing("28: not by turning back", NoSuchElementException.class, bench::lastStrike);
        bench.setHands(60);
        Due.is("28: midnight", bench.lastStrike(), 12);
        bench.setHands(60);
        Due.is("28: one", bench.lastStrike(), 1);
        bench.setFault('m', true);
        bench.setHands(60);
        Due.is("28: two, mispinned", bench.lastStrike(), 3);
        bench.setHands(600);
        Due.is("28: noon, mispinned", bench.lastStrike(), 13);
        bench.setHands(60);
        Due.is("28: one in the afternoon, mispinned", bench.lastStrike(), 2);
        HorologeBench wheel = new HorologeBench();
        wheel.setStrike('w');
        wheel.setFault('m', true);
        Watches.complete(wheel);
        wheel.setHands(-300);
        wheel.setHands(60);
        Due.is("28: a count wheel begins with 1, and has no snail", wheel.lastStrike(), 1);
        wheel.setHands(600);
        wheel.setHands(60);
        Due.is("28: twelve", wheel.lastStrike(), 12);
        wheel.setHands(60);
        Due.is("28: one behind twelve", wheel.lastStrike(), 1);
    }

    private static void repeat() {
        HorologeBench bench = Watches.whole();
        Due.is("29: midnight", bench.repeat(), 120000);
        bench.setHands(59);
        Due.is("29: the last minute of an hour", bench.repeat(), 120314);
        bench.setHands(1);
        Due.is("29: the new hour", bench.repeat(), 10000);
        bench.setHands(14);
        Due.is("29: ahead of the quarter", bench.repeat(), 10014);
        bench.setHands(1);
        Due.is("29: the quarter", bench.repeat(), 10100);
        bench.setHands(720);
        Due.is("29: in the afternoon", bench.repeat(), 10100);
        bench.setFault('b', true);
        Due.is("29: the bent hand", bench.repeat(), 10105);
        bench.setHands(42);
        Due.is("29: the bent hand begins anew", bench.repeat(), 10002);
        bench.setHands(-117);
        Due.is("29: noon, bent", bench.repeat(), 120005);
        bench.takeOut(9);
        Due.throwing("29: not whole", IllegalStateException.class, bench::repeat);
    }

    private static void setAlarm() {
        HorologeBench bench = new HorologeBench();
        Due.is("30: not set", bench.setAlarm(0), -1);
        Due.is("30: before", bench.setAlarm(1439), 0);
        Due.is("30: none", bench.setAlarm(-1), 1439);
        int[] wrong = {-2, 1440, FAR[0], FAR[1]};
        for (int minute : wrong) {
            Due.throwing("30: minute " + minute, IllegalArgumentException.class, () -> bench.setAlarm(minute));
        }
        Due.is("30: none before", bench.setAlarm(7), -1);
    }

    private static void rings() {
        HorologeBench bench = Watches.whole();
        bench.setHands(30);
        Due.is("31: not set", bench.rings(), 0);
        bench.setAlarm(40);
        bench.setHands(9);
        Due.is("31: ahead of it", bench.rings(), 0);
        bench.setHands(1);
        Due.is("31: to it", bench.rings(), 1);
        bench.setHands(1);
        Due.is("31: on from it", bench.rings(), 1);
        bench.setHands(-5);
        Due.is("31: back", bench.rings(), 1);
        bench.setHands(60);
        Due.is("31: past it", bench.rings(), 2);
        bench.setHands(720);
        bench.setHands(720);
        Due.is("31: each day", bench.rings(), 3);
        bench.setAlarm(0);
        Watches.moveTo(bench, 1439);
        bench.setHands(1);
        Due.is("31: at midnight", bench.rings(), 4);
        bench.setAlarm(-1);
        bench.setHands(720);
        bench.setHands(720);
        Due.is("31: taken off", bench.rings(), 4);
        HorologeBench going = Watches.wound(1);
        going.setAlarm(2);
        going.pass(5);
        Due.is("31: as it goes", going.rings(), 1);
    }

    /** A watch that gains nothing in its first hours. */
    private static HorologeBench withoutGain() {
        HorologeBench bench = Watches.wound(3);
        bench.setPosition(3);
        return bench;
    }

    private static void push() {
        HorologeBench bench = withoutGain();
        Due.is("32: runs from 0", bench.push('a'), 0);
        bench.pass(2);
        Due.is("32: stops", bench.push('a'), 120);
        bench.pass(2);
        Due.is("32: stands", bench.push('s'), 120);
        Due.is("32: to 0", bench.push('b'), 0);
        bench.push('a');
        bench.pass(1);
        Due.is("32: flies back", bench.push('b'), 0);
        bench.pass(1);
        Due.is("32: and has begun anew", bench.push('a'), 60);
        Due.throwing("32: no such pusher", IllegalArgumentException.class, () -> bench.push('c'));
        HorologeBench bare = new HorologeBench();
        for (char pusher : "abs".toCharArray()) {
            Due.throwing("32: not whole " + pusher, IllegalStateException.class, () -> bare.push(pusher));
        }
        Due.throwing("32: the pusher first", IllegalArgumentException.class, () -> bare.push('A'));
        HorologeBench cam = new HorologeBench();
        cam.setChronograph('c');
        Watches.complete(cam).wind(3);
        cam.push('a');
        cam.pass(1);
        Due.throwing("32: a cam bars it", UnsupportedOperationException.class, () -> cam.push('b'));
        Due.is("32: a cam splits", cam.push('s'), 60);
        Due.is("32: a cam stops", cam.push('a'), 60);
        Due.is("32: a cam goes to 0", cam.push('b'), 0);
        cam.push('a');
        cam.takeOut(1);
        Due.throwing("32: not whole ahead of the cam", IllegalStateException.class, () -> cam.push('b'));
    }

    private static void chronograph() {
        HorologeBench bench = withoutGain();
        Due.is("33: at first", bench.chronograph(false) + bench.chronograph(true), 0);
        bench.pass(1);
        Due.is("33: it does not run", bench.chronograph(false), 0);
        bench.push('a');
        bench.setHands(60);
        Due.is("33: hands turned do not count", bench.chronograph(false), 0);
        bench.pass(3);
        Due.is("33: both go", bench.chronograph(true), 180);
        bench.push('s');
        bench.pass(1);
        Due.is("33: the second one stands", bench.chronograph(true), 180);
        Due.is("33: the first one goes on", bench.chronograph(false), 240);
        bench.push('s');
        Due.is("33: it joins again", bench.chronograph(true), 240);
        bench.pass(1);
        Due.is("33: and goes on", bench.chronograph(true), 300);
        bench.push('s');
        bench.push('b');
        Due.is("33: flying back joins both", bench.chronograph(true), 0);
        bench.pass(1);
        Due.is("33: and both go on", bench.chronograph(true), 60);
        bench.push('s');
        bench.push('a');
        Due.is("33: stopping joins nothing", bench.chronograph(true), 60);
        bench.pass(1);
        bench.push('b');
        bench.push('a');
        bench.pass(1);
        Due.is("33: bringing to 0 joins both", bench.chronograph(true), 60);
        bench.crown(2);
        bench.pass(5);
        Due.is("33: only as the watch goes", bench.chronograph(false), 60);
        HorologeBench gaining = Watches.wound(8);
        gaining.setPosition(60);
        gaining.push('a');
        int seconds = gaining.pass(100);
        Due.is("33: with what it gains", gaining.chronograph(false), seconds);
        Due.isTrue("33: which is something", seconds > 6000);
    }
}
