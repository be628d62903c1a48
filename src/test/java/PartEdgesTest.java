import java.util.function.Supplier;

/** Promises 5 to 12 at their edges: every set of parts that can be in, and what is chosen with parts out. */
public final class PartEdgesTest {
    private static final int[][] RESTS_ON = {{}, {0}, {0}, {0, 2}, {0, 3}, {0, 4}, {0, 5}, {0, 6}, {0, 2}, {8}};
    private static final int ALL = 1023;

    public static void main(String[] args) {
        int sets = 0;
        for (int set = 0; set <= ALL; set++) {
            if (canBeIn(set)) {
                sets++;
                putInWith(set);
                takeOutWith(set);
                lastInWith(set);
                wholeWith(set);
            }
        }
        Due.is("5: so many sets of parts can be in", sets, 39);
        numbersOfParts();
        partThatIsPutInAnew();
        takingOutLetsDown();
        escapements();
        escapeWheel();
        calendars();
        daysOfCalendars();
        strikes();
        motionWork();
        countWheelKeepsItsPlace();
        Due.end();
    }

    private static boolean holds(int set, int part) {
        return (set >> part & 1) == 1;
    }

    private static boolean restsIn(int set, int part) {
        for (int below : RESTS_ON[part]) {
            if (!holds(set, below)) {
                return false;
            }
        }
        return true;
    }

    private static boolean canBeIn(int set) {
        for (int part = 0; part <= 9; part++) {
            if (holds(set, part) && !restsIn(set, part)) {
                return false;
            }
        }
        return true;
    }

    private static HorologeBench with(int set) {
        HorologeBench bench = new HorologeBench();
        if (!holds(set, 0)) {
            bench.takeOut(0);
        }
        for (int part = 1; part <= 9; part++) {
            if (holds(set, part)) {
                bench.putIn(part);
            }
        }
        return bench;
    }

    private static void putInWith(int set) {
        Supplier<HorologeBench> maker = () -> with(set);
        for (int part = 0; part <= 9; part++) {
            int number = part;
            String what = "5: part " + part + " with the set " + set;
            if (holds(set, part)) {
                Refused.unsupported(what + ", where it is in", maker, it -> it.putIn(number));
            } else if (!restsIn(set, part)) {
                Refused.none(what + ", where one is not", maker, it -> it.putIn(number));
            } else {
                HorologeBench bench = with(set);
                int more = set | 1 << part;
                Due.is(what, bench.putIn(part) ? 1 : 0, more == ALL ? 1 : 0);
                Due.is(what + ", they are in", setOf(bench), more);
                Due.is(what + ", the last one", bench.lastIn(0), part);
            }
        }
    }

    private static int setOf(HorologeBench bench) {
        int set = 0;
        for (int part = 0; part <= 9; part++) {
            set |= bench.isIn(part) ? 1 << part : 0;
        }
        return set;
    }

    private static void takeOutWith(int set) {
        Supplier<HorologeBench> maker = () -> with(set);
        for (int part = 0; part <= 9; part++) {
            int number = part;
            String what = "6: part " + part + " with the set " + set;
            int less = set & ~(1 << part);
            if (!holds(set, part)) {
                Refused.unsupported(what + ", where it is not in", maker, it -> it.takeOut(number));
            } else if (!canBeIn(less)) {
                Refused.state(what + ", where it bears one", maker, it -> it.takeOut(number));
            } else {
                HorologeBench bench = with(set);
                Due.is(what, bench.takeOut(part), Integer.bitCount(less));
                Due.is(what + ", they are in", setOf(bench), less);
            }
        }
    }

    /** The parts of the set were put in by their numbers. */
    private static void lastInWith(int set) {
        HorologeBench bench = with(set);
        int back = 0;
        for (int part = 9; part >= 0; part--) {
            if (holds(set, part)) {
                Due.is("8: back " + back + " with the set " + set, bench.lastIn(back), part);
                back++;
            }
        }
        for (int far : new int[] {back, back + 1, -1, Integer.MAX_VALUE, Integer.MIN_VALUE}) {
            Refused.none("8: back " + far + " with the set " + set, () -> with(set), it -> it.lastIn(far));
        }
    }

    private static void wholeWith(int set) {
        Due.is("9: whole with the set " + set, with(set).isWhole() ? 1 : 0, set == ALL ? 1 : 0);
    }

    private static void numbersOfParts() {
        Refused.noSuch("5: part", 0, 9, Watches::busy, (it, part) -> it.putIn(part));
        Refused.noSuch("5: part, with the plate alone", 0, 9, HorologeBench::new, (it, part) -> it.putIn(part));
        Refused.noSuch("6: part", 0, 9, Watches::busy, (it, part) -> it.takeOut(part));
        Refused.noSuch("6: part, without any", 0, 9, () -> with(0), (it, part) -> it.takeOut(part));
        Refused.noSuch("7: part", 0, 9, Watches::busy, (it, part) -> it.isIn(part));
    }

    private static void partThatIsPutInAnew() {
        HorologeBench bench = with(ALL);
        bench.takeOut(1);
        bench.putIn(1);
        int[] back = {1, 9, 8, 7, 6, 5, 4, 3, 2, 0};
        for (int i = 0; i < back.length; i++) {
            Due.is("8: one that was put in anew is the last one, back " + i, bench.lastIn(i), back[i]);
        }
    }

    private static void takingOutLetsDown() {
        for (int part : new int[] {1, 7, 9}) {
            HorologeBench bench = Watches.wound(8);
            Due.is("6: part " + part, bench.takeOut(part), 9);
            Due.isFalse("6: it stops, part " + part, bench.goes());
            Due.is("6: the spring is let down, part " + part, bench.force(), 0);
            Due.isExactly("6: wholly, part " + part, bench.fullness(), 0);
            Due.isTrue("6: put in again, part " + part, bench.putIn(part));
            Due.isFalse("6: it still stands, part " + part, bench.goes());
            Due.is("6: it is wound from 0, part " + part, bench.wind(1), 360);
            Due.isTrue("6: and goes, part " + part, bench.goes());
        }
        for (int part : new int[] {0, 2, 3, 4, 5, 6, 8}) {
            Refused.state("6: of a watch that goes, part " + part, Watches::busy, it -> it.takeOut(part));
        }
    }

    private static void escapements() {
        for (char before : "lcd".toCharArray()) {
            for (char kind : "lcd".toCharArray()) {
                HorologeBench bench = new HorologeBench();
                bench.setEscapement(before);
                Due.isChar("10: " + before + " before " + kind, bench.setEscapement(kind), before);
                Due.isChar("10: " + kind + " is chosen", bench.setEscapement('l'), kind);
            }
        }
        Refused.letters("10: kind", "lcd", () -> Watches.busyWithout(7, 6, 5), HorologeBench::setEscapement);
        Refused.letters("10: kind, with the wheel in", "lcd", Watches::busy, HorologeBench::setEscapement);
    }

    private static void escapeWheel() {
        for (char kind : "lcd".toCharArray()) {
            Refused.unsupported("10: the escape wheel is in, " + kind, Watches::busy, it -> it.setEscapement(kind));
            Refused.unsupported("10: it is in without a lever, " + kind, () -> Watches.busyWithout(7, 6),
                    it -> it.setEscapement(kind));
            Due.isChar("10: it is out, " + kind, Watches.busyWithout(7, 6, 5).setEscapement(kind), 'd');
        }
    }

    private static void calendars() {
        for (char before : "paq".toCharArray()) {
            for (char kind : "paq".toCharArray()) {
                HorologeBench bench = new HorologeBench();
                bench.setCalendar(before);
                Due.isChar("11: " + before + " before " + kind, bench.setCalendar(kind), before);
                Due.isChar("11: " + kind + " is chosen", bench.setCalendar('p'), kind);
            }
        }
        Refused.letters("11: kind", "paq", () -> Watches.busyWithout(9, 8), HorologeBench::setCalendar);
        Refused.letters("11: kind, with the motion work in", "paq", Watches::busy, HorologeBench::setCalendar);
    }

    private static void daysOfCalendars() {
        for (int month = 1; month <= 12; month++) {
            for (int year = 0; year <= 3; year++) {
                for (char kind : "paq".toCharArray()) {
                    int last = Watches.lastDay(kind, month, year);
                    for (int day = last - 1; day <= 31; day++) {
                        dayBecomes(kind, day, month, year, Math.min(day, last));
                    }
                }
            }
        }
    }

    private static void dayBecomes(char kind, int day, int month, int year, int due) {
        HorologeBench bench = Watches.at(720);
        bench.setDate(day, month, year);
        bench.takeOut(9);
        bench.takeOut(8);
        bench.setCalendar(kind);
        Due.isTrue("11: " + day + "." + month + "." + year + " by " + kind,
                Watches.date(bench).equals(due + "." + month + "." + year));
    }

    private static void strikes() {
        for (char before : "rw".toCharArray()) {
            for (char kind : "rw".toCharArray()) {
                HorologeBench bench = new HorologeBench();
                bench.setStrike(before);
                Due.isChar("12: " + before + " before " + kind, bench.setStrike(kind), before);
                Due.isChar("12: " + kind + " is chosen", bench.setStrike('r'), kind);
            }
        }
        Refused.letters("12: kind", "rw", () -> Watches.busyWithout(9, 8), HorologeBench::setStrike);
        Refused.letters("12: kind, with the motion work in", "rw", Watches::busy, HorologeBench::setStrike);
    }

    private static void motionWork() {
        Supplier<HorologeBench> withoutHands = () -> Watches.busyWithout(9);
        for (char kind : "paq".toCharArray()) {
            Refused.unsupported("11: the motion work is in, " + kind, withoutHands, it -> it.setCalendar(kind));
            Due.isChar("11: it is out, " + kind, Watches.busyWithout(9, 8).setCalendar(kind), 'q');
        }
        for (char kind : "rw".toCharArray()) {
            Refused.unsupported("12: the motion work is in, " + kind, withoutHands, it -> it.setStrike(kind));
            Due.isChar("12: it is out, " + kind, Watches.busyWithout(9, 8).setStrike(kind), 'w');
        }
    }

    /** Lets a strike be chosen in a whole watch. */
    private static void choose(HorologeBench bench, char kind) {
        bench.takeOut(9);
        bench.takeOut(8);
        bench.setStrike(kind);
        bench.putIn(8);
        bench.putIn(9);
    }

    private static void countWheelKeepsItsPlace() {
        HorologeBench bench = Watches.whole();
        choose(bench, 'w');
        bench.setHands(660);
        Due.is("12: the wheel at 11", bench.lastStrike(), 11);
        choose(bench, 'r');
        bench.setHands(180);
        Due.is("12: a rack for a while", bench.lastStrike(), 2);
        choose(bench, 'w');
        bench.setHands(60);
        Due.is("12: the wheel goes on with 12", bench.lastStrike(), 12);
        choose(bench, 'r');
        choose(bench, 'w');
        bench.setHands(60);
        Due.is("12: and with 1 behind 12", bench.lastStrike(), 1);
        Due.is("12: all blows", bench.strikes(), 66 + 12 + 1 + 2 + 12 + 1);
    }
}
