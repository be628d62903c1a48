import java.util.function.Supplier;

/**
 * What an object answers from now on: by calls that read, go on, set (and so tell what was set), and
 * take the watch apart. Two objects of which one was asked something that it refused must answer alike.
 */
final class Later {
    /** So many calls at most; with those ahead of them, they have to stay within 512. */
    static final int CALLS = 340;

    private final HorologeBench bench;
    private final StringBuilder all = new StringBuilder();
    private int calls;

    private Later(HorologeBench bench) {
        this.bench = bench;
    }

    static String answers(HorologeBench bench) {
        Later later = new Later(bench);
        later.readParts();
        later.read();
        later.readArbors();
        later.goOn();
        later.setAll();
        later.moveArbors();
        later.takeApart();
        if (later.calls > CALLS) {
            throw new IllegalStateException("so many calls: " + later.calls);
        }
        return later.all.toString();
    }

    private void tell(String call, Supplier<Object> answer) {
        calls++;
        all.append(call).append('=');
        try {
            all.append(answer.get());
        } catch (RuntimeException e) {
            all.append(e.getClass().getSimpleName());
        }
        all.append(' ');
    }

    private void readParts() {
        for (int back = 0; back <= 10; back++) {
            int place = back;
            tell("lastIn" + back, () -> bench.lastIn(place));
        }
        tell("isWhole", () -> bench.isWhole());
    }

    private void read() {
        readGoing();
        for (char hand : "hmsd".toCharArray()) {
            tell("shows" + hand, () -> bench.shows(hand));
        }
        for (char what : "dmy".toCharArray()) {
            tell("calendar" + what, () -> bench.calendar(what));
        }
        for (char what : "hdm".toCharArray()) {
            tell("zone" + what, () -> bench.zone(what));
        }
        tell("repeat", () -> bench.repeat());
        tell("moon", () -> bench.moon());
        tell("sunTime", () -> bench.sunTime());
        tell("strikes", () -> bench.strikes());
        tell("lastStrike", () -> bench.lastStrike());
        tell("rings", () -> bench.rings());
        tell("first", () -> bench.chronograph(false));
        tell("second", () -> bench.chronograph(true));
        tell("isSound", () -> bench.isSound());
    }

    private void readGoing() {
        tell("goes", () -> bench.goes());
        tell("force", () -> bench.force());
        tell("rate", () -> bench.rate());
        tell("swing", () -> bench.swing());
        tell("reserve", () -> bench.reserve());
        tell("stopsFirst", () -> bench.stopsFirst());
        tell("fullness", () -> bench.fullness());
        tell("turned", () -> bench.turned());
        tell("meanGain", () -> bench.meanGain());
    }

    private void readArbors() {
        for (int arbor = 0; arbor <= 16; arbor++) {
            int number = arbor;
            tell("n" + arbor, () -> bench.turnsOf(number, 'n'));
            tell("d" + arbor, () -> bench.turnsOf(number, 'd'));
            tell("star" + arbor, () -> bench.star(number));
        }
    }

    private void goOn() {
        tell("pass", () -> bench.pass(1));
        tell("crown", () -> bench.crown(-1));
        tell("pass", () -> bench.pass(40));
        tell("shock", () -> bench.shock());
        tell("wind", () -> bench.wind(1));
        tell("pass", () -> bench.pass(80));
        for (char pusher : "ssaba".toCharArray()) {
            tell("push" + pusher, () -> bench.push(pusher));
            tell("second", () -> bench.chronograph(true));
        }
        for (int minutes : new int[] {-29, 720, 720}) {
            tell("setHands", () -> bench.setHands(minutes));
            tell("lastStrike", () -> bench.lastStrike());
            tell("rings", () -> bench.rings());
        }
        read();
    }

    private void setAll() {
        tell("setPosition", () -> bench.setPosition(1));
        tell("setWarmth", () -> bench.setWarmth(21));
        tell("setPoise", () -> bench.setPoise(1));
        tell("setAlarm", () -> bench.setAlarm(1));
        tell("setMoonAge", () -> bench.setMoonAge(1));
        tell("jumpZone", () -> bench.jumpZone(0));
        for (char fault : "wdbm".toCharArray()) {
            tell("setFault" + fault, () -> bench.setFault(fault, false));
        }
        for (int hour = 0; hour <= 23; hour++) {
            int ofDay = hour;
            tell("setHourRate" + hour, () -> bench.setHourRate(ofDay, 1));
        }
        for (int month = 1; month <= 12; month++) {
            int ofYear = month;
            tell("setEquation" + month, () -> bench.setEquation(ofYear, 1));
        }
        tell("setDate", () -> bench.setDate(1, 1, 1));
    }

    private void moveArbors() {
        tell("turn", () -> bench.turn(3, 2));
        tell("addArbor", () -> bench.addArbor());
        for (int arbor = 0; arbor <= 16; arbor++) {
            int number = arbor;
            tell("n" + arbor, () -> bench.turnsOf(number, 'n'));
            tell("star" + arbor, () -> bench.star(number));
            tell("loosen" + arbor, () -> bench.loosen(number));
        }
        tell("addStar", () -> bench.addStar(1, 5));
    }

    private void takeApart() {
        for (int part = 9; part >= 0; part--) {
            int number = part;
            tell("takeOut" + part, () -> bench.takeOut(number));
        }
        tell("setFusee", () -> bench.setFusee(true));
        tell("setStopworks", () -> bench.setStopworks(true));
        tell("setEscapement", () -> bench.setEscapement('c'));
        tell("setCalendar", () -> bench.setCalendar('a'));
        tell("setStrike", () -> bench.setStrike('w'));
        tell("setMoon", () -> bench.setMoon('3'));
        tell("setSurprise", () -> bench.setSurprise(false));
        tell("setChronograph", () -> bench.setChronograph('c'));
        tell("moon", () -> bench.moon());
    }
}
