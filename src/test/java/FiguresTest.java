/** Promises 62 to 68: surprises, counters and figures. */
public final class FiguresTest {
    public static void main(String[] args) {
        setSurprise();
        setChronograph();
        counter();
        turned();
        fullness();
        meanGain();
        isSound();
        Due.end();
    }

    private static void setSurprise() {
        HorologeBench bench = new HorologeBench();
        Due.isTrue("62: there at first", bench.setSurprise(false));
        Due.isFalse("62: not there before", bench.setSurprise(true));
        Due.isTrue("62: there before", bench.setSurprise(false));
        Watches.complete(bench);
        Due.throwing("62: the motion work is in", UnsupportedOperationException.class,
                () -> bench.setSurprise(true));
        Due.is("62: the first minute of the day", bench.repeat(), 120314);
        bench.setHands(1);
        Due.is("62: the second minute", bench.repeat(), 120001);
        bench.setHands(59);
        Due.is("62: with the new hour", bench.repeat(), 10314);
        bench.setFault('b', true);
        Due.is("62: whatever the minute hand shows", bench.repeat(), 10314);
        bench.setHands(55);
        Due.is("62: the bent hand at the full hour", bench.repeat(), 10000);
        bench.setFault('b', false);
        bench.wind(3);
        bench.setHands(5);
        bench.pass(1);
        Due.is("62: a minute past", bench.repeat(), 20001);
    }

    private static void setChronograph() {
        HorologeBench bench = new HorologeBench();
        Due.isChar("63: a column wheel at first", bench.setChronograph('c'), 'w');
        Due.isChar("63: a cam before", bench.setChronograph('c'), 'c');
        Due.throwing("63: no such kind", IllegalArgumentException.class, () -> bench.setChronograph('r'));
        Watches.complete(bench);
        Due.throwing("63: the motion work is in", UnsupportedOperationException.class,
                () -> bench.setChronograph('w'));
        Due.throwing("63: the kind first", IllegalArgumentException.class, () -> bench.setChronograph('s'));
        bench.push('a');
        Due.throwing("63: the cam bars flying back", UnsupportedOperationException.class, () -> bench.push('b'));
        bench.takeOut(9);
        bench.takeOut(8);
        Due.isChar("63: changed", bench.setChronograph('w'), 'c');
        Watches.complete(bench);
        Due.is("63: a column wheel does not", bench.push('b'), 0);
    }

    private static void counter() {
        HorologeBench bench = Watches.wound(8);
        Due.is("64: at first", bench.counter('m') + bench.counter('h'), 0);
        bench.push('a');
        bench.pass(29);
        Due.is("64: 29 minutes", bench.counter('m'), 29);
        bench.pass(1);
        Due.is("64: comes round", bench.counter('m'), 0);
        bench.pass(29);
        Due.is("64: no hour yet", bench.counter('h'), 0);
        bench.pass(1);
        Due.is("64: an hour", bench.counter('h'), 1);
        bench.push('s');
        bench.pass(615);
        Due.is("64: of the first hand", bench.counter('h'), 11);
        Due.is("64: its minutes", bench.counter('m'), 15);
        bench.pass(45);
        Due.is("64: the hours come round", bench.counter('h'), 0);
        Due.throwing("64: no such counter", IllegalArgumentException.class, () -> bench.counter('s'));
    }

    private static void turned() {
        HorologeBench bench = Watches.wound(8);
        Due.is("65: at first", bench.turned(), 0);
        int first = bench.pass(100);
        bench.setHands(300);
        bench.setHands(-20);
        Due.is("65: as it went", bench.turned(), first);
        int next = bench.pass(2000);
        Due.is("65: all in all", bench.turned(), (long) first + next);
        bench.takeOut(9);
        Due.is("65: it stays", bench.turned(), (long) first + next);
    }

    private static void fullness() {
        HorologeBench bench = Watches.whole();
        Due.isExactly("66: empty", bench.fullness(), 0);
        bench.wind(1);
        Due.isExactly("66: a turn", bench.fullness(), 0.125f);
        bench.pass(1);
        Due.isExactly("66: less a minute", bench.fullness(), 359f / 2880f);
        bench.wind(8);
        Due.isExactly("66: full", bench.fullness(), 1);
    }

    private static void meanGain() {
        HorologeBench bench = Watches.whole();
        Due.throwing("67: it never went", ArithmeticException.class, bench::meanGain);
        bench.pass(5);
        Due.throwing("67: it still did not", ArithmeticException.class, bench::meanGain);
        bench.wind(2);
        bench.pass(1);
        Due.isExactly("67: a second lost", bench.meanGain(), -1.0);
        bench.pass(2);
        Due.isExactly("67: in three minutes", bench.meanGain(), -1.0 / 3.0);
        HorologeBench even = Watches.wound(3);
        even.pass(1);
        Due.isExactly("67: nothing", even.meanGain(), 0.0);
    }

    private static void isSound() {
        HorologeBench bench = new HorologeBench();
        Due.isTrue("68: a new one", bench.isSound());
        bench.setCalendar('a');
        bench.setPoise(13);
        bench.setPosition(-41);
        Watches.complete(bench).wind(8);
        for (int i = 0; i < 20; i++) {
            bench.setWarmth(2 * i);
            bench.setHourRate(i, i - 10);
            bench.pass(97);
            bench.setHands(i % 3 == 0 ? 700 : -111);
            Due.isTrue("68: as it goes " + i, bench.isSound());
        }
        bench.setFault('m', true);
        bench.setHands(600);
        bench.setFault('m', false);
        Due.isTrue("68: one that was mispinned", bench.isSound());
        bench.takeOut(9);
        bench.takeOut(8);
        bench.setStrike('w');
        bench.setCalendar('q');
        Due.isTrue("68: taken apart", bench.isSound());
        Watches.complete(bench).wind(8);
        bench.setHands(-700);
        bench.pass(2000);
        Due.isTrue("68: with a count wheel out of step", bench.isSound());
    }
}
