import java.util.LinkedHashMap;
import java.util.Map;
import java.util.Set;
import java.util.TreeSet;
import java.util.function.Consumer;
import java.util.function.Supplier;

/** Each call changes what its promise says, and nothing beside it: all that a busy watch shows, before and after. */
public final class AloneTest {
    public static void main(String[] args) {
        parts();
        spring();
        ratesAndFaults();
        hands();
        calendarAndMoon();
        chronograph();
        arbors();
        chosenWithPartsOut();
        readingChangesNothing();
        Due.end();
    }

    private static void read(Map<String, String> shown, String name, Supplier<Object> call) {
        String answer;
        try {
            answer = String.valueOf(call.get());
        } catch (RuntimeException e) {
            answer = e.getClass().getSimpleName();
        }
        shown.put(name, answer);
    }

    private static Map<String, String> shown(HorologeBench bench) {
        Map<String, String> shown = new LinkedHashMap<>();
        readWatch(shown, bench);
        readHands(shown, bench);
        readFigures(shown, bench);
        for (int arbor = 0; arbor <= 5; arbor++) {
            int number = arbor;
            read(shown, "arbor" + arbor, () -> bench.turnsOf(number, 'n') + "/" + bench.turnsOf(number, 'd'));
            read(shown, "star" + arbor, () -> bench.star(number));
        }
        return shown;
    }

    private static void readWatch(Map<String, String> shown, HorologeBench bench) {
        StringBuilder parts = new StringBuilder();
        for (int part = 0; part <= 9; part++) {
            parts.append(bench.isIn(part) ? part : '-');
        }
        shown.put("parts", parts.toString());
        read(shown, "lastIn", () -> bench.lastIn(0));
        read(shown, "isWhole", () -> bench.isWhole());
        read(shown, "force", () -> bench.force());
        read(shown, "goes", () -> bench.goes());
        read(shown, "rate", () -> bench.rate());
        read(shown, "explains", () -> bench.explains(20));
        read(shown, "reserve", () -> bench.reserve());
        read(shown, "untilForce", () -> bench.untilForce(3));
        read(shown, "swing", () -> bench.swing());
        read(shown, "stopsFirst", () -> bench.stopsFirst());
    }

    private static void readHands(Map<String, String> shown, HorologeBench bench) {
        for (char hand : "hmsd".toCharArray()) {
            read(shown, "shows" + hand, () -> bench.shows(hand));
        }
        read(shown, "date", () -> Watches.date(bench));
        read(shown, "strikes", () -> bench.strikes());
        read(shown, "lastStrike", () -> bench.lastStrike());
        read(shown, "repeat", () -> bench.repeat());
        read(shown, "rings", () -> bench.rings());
        read(shown, "first", () -> bench.chronograph(false));
        read(shown, "second", () -> bench.chronograph(true));
        read(shown, "counters", () -> bench.counter('h') + ":" + bench.counter('m'));
        read(shown, "zoneHour", () -> bench.zone('h'));
        read(shown, "zoneDate", () -> bench.zone('d') + "." + bench.zone('m'));
    }

    private static void readFigures(Map<String, String> shown, HorologeBench bench) {
        read(shown, "moon", () -> bench.moon());
        read(shown, "moonError", () -> bench.moonError(1000));
        read(shown, "sunTime", () -> bench.sunTime());
        read(shown, "firstSlip", () -> bench.firstSlip());
        read(shown, "turned", () -> bench.turned());
        read(shown, "fullness", () -> bench.fullness());
        read(shown, "meanGain", () -> bench.meanGain());
        read(shown, "isSound", () -> bench.isSound());
    }

    /** After the call, just the things that are named show something else. */
    private static void changes(String what, HorologeBench bench, String due, Consumer<HorologeBench> call) {
        Map<String, String> before = shown(bench);
        call.accept(bench);
        Map<String, String> after = shown(bench);
        Set<String> got = new TreeSet<>();
        for (String name : before.keySet()) {
            if (!before.get(name).equals(after.get(name))) {
                got.add(name);
            }
        }
        Set<String> wanted = new TreeSet<>();
        for (String name : due.split(" ")) {
            if (!name.isEmpty()) {
                wanted.add(name);
            }
        }
        Due.isTrue(what + " changes " + got + ", due is " + wanted, got.equals(wanted));
    }

    private static void changes(String what, String due, Consumer<HorologeBench> call) {
        changes(what, Watches.busy(), due, call);
    }

    private static void parts() {
        String down = "parts lastIn isWhole force goes rate explains reserve untilForce swing stopsFirst repeat fullness";
        changes("6: taking out", down, it -> it.takeOut(9));
        HorologeBench bench = Watches.busyWithout(9);
        changes("6: taking out more", bench, "parts lastIn", it -> it.takeOut(8));
        changes("6: taking out all", bench, "parts lastIn", it -> {
            for (int part : new int[] {7, 6, 5, 4, 3, 2, 1, 0}) {
                it.takeOut(part);
            }
        });
        changes("5: putting the plate in", bench, "parts lastIn", it -> it.putIn(0));
        changes("5: putting the last one in", Watches.busyWithout(9), "parts lastIn isWhole stopsFirst repeat",
                it -> it.putIn(9));
    }

    private static void spring() {
        changes("13: winding", "force rate explains reserve untilForce swing fullness", it -> it.wind(1));
        changes("16: a shock", "goes swing", HorologeBench::shock);
        changes("41: the crown that winds", "", it -> it.crown(0));
        changes("41: the crown that sets the date", "", it -> it.crown(1));
        changes("41: the crown that sets the hands", "goes swing", it -> it.crown(2));
        changes("41: without a crown again", Watches.busyWithCrown(2), "goes swing", it -> it.crown(-1));
        changes("21: passing as it stands", Watches.busyWithCrown(2), "", it -> it.pass(2000));
        changes("21: passing", "showsm showsd repeat first counters sunTime turned fullness reserve untilForce",
                it -> it.pass(1));
    }

    private static void ratesAndFaults() {
        changes("17: the position", "rate explains", it -> it.setPosition(14));
        changes("18: the warmth", "rate explains", it -> it.setWarmth(16));
        changes("38: the rate of this hour", "rate", it -> it.setHourRate(8, 20));
        changes("38: the rate of another hour", "", it -> it.setHourRate(9, 20));
        changes("39: the error of poise", "rate", it -> it.setPoise(6));
        changes("19: worn", "rate", it -> it.setFault('w', true));
        changes("19: dirty", "force rate reserve untilForce swing", it -> it.setFault('d', true));
        changes("19: no longer bent", "showsm repeat", it -> it.setFault('b', false));
        changes("19: mispinned", "", it -> it.setFault('m', true));
        changes("19: bent, as it is", "", it -> it.setFault('b', true));
    }

    private static void hands() {
        changes("23: the hands on by an hour", "showsh showsd strikes lastStrike repeat rings sunTime zoneHour rate",
                it -> it.setHands(60));
        changes("23: the hands back by an hour", "showsh showsd repeat sunTime zoneHour rate", it -> it.setHands(-60));
        changes("23: the hands on by a minute", "showsm showsd repeat sunTime", it -> it.setHands(1));
        changes("23: the hands back past midnight", "showsh showsd repeat sunTime zoneHour rate",
                it -> it.setHands(-660));
        changes("30: the alarm", "", it -> it.setAlarm(528));
        changes("30: no alarm", "", it -> it.setAlarm(-1));
        changes("29: the repeater", "", HorologeBench::repeat);
        changes("50: the zone", "zoneHour", it -> it.jumpZone(3));
        changes("50: the zone back past midnight", "zoneHour zoneDate", it -> {
            it.jumpZone(-3);
            it.jumpZone(-3);
        });
        changes("50: the zone, by nothing", "", it -> it.jumpZone(0));
    }

    private static void calendarAndMoon() {
        changes("26: the day", "date zoneDate", it -> it.setDate(5, 2, 0));
        changes("26: the month, which the sun follows", "date zoneDate sunTime", it -> it.setDate(27, 3, 0));
        changes("26: the year", "date", it -> it.setDate(27, 2, 1));
        changes("45: the moon", "moon", it -> it.setMoonAge(0));
        changes("47: the cam of this month", "sunTime", it -> it.setEquation(2, -9));
        changes("47: the cam of another month", "", it -> it.setEquation(3, -9));
    }

    private static void chronograph() {
        changes("32: stopping", "", it -> it.push('a'));
        changes("32: flying back", "first second counters", it -> it.push('b'));
        changes("32: joining", "second", it -> it.push('s'));
        HorologeBench joined = Watches.busy();
        joined.push('s');
        changes("32: splitting", joined, "", it -> it.push('s'));
        joined.push('a');
        changes("32: bringing to 0", joined, "first second counters", it -> it.push('b'));
        changes("32: running", joined, "", it -> it.push('a'));
    }

    private static void arbors() {
        changes("52: an arbor", "arbor5 star5", HorologeBench::addArbor);
        changes("53: by wheels", "arbor4", it -> it.mesh(0, 10, 4, 10));
        changes("54: fast", "arbor4", it -> it.fasten(3, 4));
        changes("55: by a differential", "arbor4", it -> it.differ(1, 3, 4));
        changes("56: one that drives nothing", "arbor3", it -> it.loosen(3));
        changes("56: one that drives another", "arbor2 arbor3", it -> it.loosen(2));
        changes("56: one that drives two", "arbor1 arbor2 arbor3", it -> it.loosen(1));
        changes("57: a star", "star4", it -> it.addStar(4, 4));
        changes("58: turning", "arbor0 arbor1 arbor2 arbor3 star1 star3", it -> it.turn(2, 1));
        changes("58: turning by nothing", "", it -> it.turn(0, 5));
    }

    private static void chosenWithPartsOut() {
        HorologeBench bench = Watches.busyWithout(9, 8, 7, 6, 5, 1);
        changes("10: the escapement", bench, "", it -> it.setEscapement('c'));
        changes("12: the strike", bench, "", it -> it.setStrike('r'));
        changes("34: a fusee", bench, "", it -> it.setFusee(true));
        changes("35: no stopworks", bench, "", it -> it.setStopworks(false));
        changes("62: the surprise piece", bench, "", it -> it.setSurprise(true));
        changes("63: the chronograph", bench, "", it -> it.setChronograph('c'));
        changes("43: the moon", bench, "moon moonError", it -> it.setMoon('5'));
        changes("43: the same moon", bench, "", it -> it.setMoon('5'));
        changes("11: the calendar", bench, "firstSlip", it -> it.setCalendar('a'));
        changes("11: the same calendar", bench, "", it -> it.setCalendar('a'));
        changes("11: a calendar that slips as early", bench, "", it -> it.setCalendar('p'));
        HorologeBench late = Watches.at(720);
        late.setDate(31, 4, 2);
        late.takeOut(9);
        late.takeOut(8);
        changes("11: a calendar that has not the day", late, "date zoneDate", it -> it.setCalendar('a'));
    }

    private static void readingChangesNothing() {
        changes("2 to 68: what only looks or tells", "", it -> {
            shown(it);
            it.stage(60, 8);
            it.train(60, 1, 3);
            it.trainWithin(60, 1, 300);
            it.ratios();
            it.calendar('y');
            it.zone('m');
        });
    }
}
