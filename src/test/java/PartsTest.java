import java.util.NoSuchElementException;

/** Promises 5 to 12: parts, and what is chosen while they are out. */
public final class PartsTest {
    private static final int[] WRONG_PARTS = {-1, 10, Integer.MIN_VALUE, Integer.MAX_VALUE};

    public static void main(String[] args) {
        putIn();
        takeOut();
        isIn();
        lastIn();
        isWhole();
        setEscapement();
        setCalendar();
        setStrike();
        Due.end();
    }

    private static void putIn() {
        HorologeBench bench = new HorologeBench();
        Due.throwing("5: the plate is in", UnsupportedOperationException.class, () -> bench.putIn(0));
        for (int part = 3; part <= 9; part++) {
            int early = part;
            Due.throwing("5: " + part + " too early", NoSuchElementException.class, () -> bench.putIn(early));
        }
        for (int part = 1; part <= 9; part++) {
            Due.is("5: whole with " + part, bench.putIn(part) ? 1 : 0, part == 9 ? 1 : 0);
        }
        for (int part = 0; part <= 9; part++) {
            int again = part;
            Due.throwing("5: " + part + " again", UnsupportedOperationException.class, () -> bench.putIn(again));
        }
        for (int part : WRONG_PARTS) {
            Due.throwing("5: part " + part, IndexOutOfBoundsException.class, () -> bench.putIn(part));
        }
        HorologeBench bare = new HorologeBench();
        bare.takeOut(0);
        for (int part = 1; part <= 9; part++) {
            int floating = part;
            Due.throwing("5: " + part + " without a plate", NoSuchElementException.class,
                    () -> bare.putIn(floating));
        }
        Due.isFalse("5: the plate rests on nothing", bare.putIn(0));
        Due.isFalse("5: the motion work rests on 2, not on 7", put(bare, 2, 8));
        Due.isFalse("5: the hands rest on 8", bare.putIn(9));
        Due.isFalse("5: the train in its order", put(bare, 3, 4, 5, 6, 7));
        Due.isTrue("5: the barrel as the last one", bare.putIn(1));
    }

    private static boolean put(HorologeBench bench, int... parts) {
        boolean isWhole = false;
        for (int part : parts) {
            isWhole = bench.putIn(part);
        }
        return isWhole;
    }

    private static void takeOut() {
        HorologeBench bench = Watches.wound(4);
        int[] rested = {0, 2, 3, 4, 5, 6, 8};
        for (int part : rested) {
            Due.throwing("6: " + part + " bears another", IllegalStateException.class, () -> bench.takeOut(part));
        }
        Due.is("6: what is refused lets nothing down", bench.force(), 5);
        Due.is("6: the barrel", bench.takeOut(1), 9);
        Due.is("6: the spring is let down", bench.force(), 0);
        Due.throwing("6: out already", UnsupportedOperationException.class, () -> bench.takeOut(1));
        for (int part : WRONG_PARTS) {
            Due.throwing("6: part " + part, IndexOutOfBoundsException.class, () -> bench.takeOut(part));
        }
        int[] order = {9, 8, 7, 6, 5, 4, 3, 2, 0};
        for (int i = 0; i < order.length; i++) {
            Due.is("6: takes " + order[i], bench.takeOut(order[i]), 8 - i);
        }
        Due.throwing("6: the plate is out", UnsupportedOperationException.class, () -> bench.takeOut(0));
        HorologeBench hands = Watches.wound(4);
        hands.takeOut(9);
        hands.putIn(9);
        Due.isFalse("6: taking out stops it", hands.goes());
        Due.is("6: and lets the spring down", hands.wind(1), 360);
    }

    private static void isIn() {
        HorologeBench bench = new HorologeBench();
        bench.putIn(2);
        Due.isTrue("7: 2 is in", bench.isIn(2));
        Due.isFalse("7: 1 is not", bench.isIn(1));
        bench.takeOut(2);
        Due.isFalse("7: 2 is out", bench.isIn(2));
        for (int part : WRONG_PARTS) {
            Due.throwing("7: part " + part, IndexOutOfBoundsException.class, () -> bench.isIn(part));
        }
    }

    private static void lastIn() {
        HorologeBench bench = new HorologeBench();
        Due.is("8: the plate", bench.lastIn(0), 0);
        Due.throwing("8: no more", NoSuchElementException.class, () -> bench.lastIn(1));
        put(bench, 2, 1, 8, 3);
        int[] back = {3, 8, 1, 2, 0};
        for (int i = 0; i < back.length; i++) {
            Due.is("8: back " + i, bench.lastIn(i), back[i]);
        }
        bench.takeOut(1);
        int[] left = {3, 8, 2, 0};
        for (int i = 0; i < left.length; i++) {
            Due.is("8: without the barrel, back " + i, bench.lastIn(i), left[i]);
        }
        Due.throwing("8: four are in", NoSuchElementException.class, () -> bench.lastIn(4));
        bench.putIn(1);
        Due.is("8: put in anew", bench.lastIn(0), 1);
        Due.throwing("8: back -1", NoSuchElementException.class, () -> bench.lastIn(-1));
        Due.throwing("8: far back", NoSuchElementException.class, () -> bench.lastIn(Integer.MAX_VALUE));
        Due.throwing("8: far ahead", NoSuchElementException.class, () -> bench.lastIn(Integer.MIN_VALUE));
    }

    private static void isWhole() {
        HorologeBench bench = new HorologeBench();
        Due.isFalse("9: a plate alone", bench.isWhole());
        Watches.complete(bench);
        Due.isTrue("9: all parts", bench.isWhole());
        bench.takeOut(7);
        Due.isFalse("9: without the balance", bench.isWhole());
    }

    private static void setEscapement() {
        HorologeBench bench = new HorologeBench();
        Due.isChar("10: a lever at first", bench.setEscapement('d'), 'l');
        Due.isChar("10: the detent before", bench.setEscapement('c'), 'd');
        Due.isChar("10: the cylinder before", bench.setEscapement('l'), 'c');
        Due.throwing("10: no such kind", IllegalArgumentException.class, () -> bench.setEscapement('x'));
        put(bench, 2, 3, 4);
        Due.isChar("10: the escape wheel is out", bench.setEscapement('d'), 'l');
        bench.putIn(5);
        Due.throwing("10: it is in", UnsupportedOperationException.class, () -> bench.setEscapement('l'));
        Due.throwing("10: the kind first", IllegalArgumentException.class, () -> bench.setEscapement('L'));
    }

    private static void setCalendar() {
        HorologeBench bench = Watches.at(720);
        bench.setDate(31, 2, 1);
        bench.takeOut(9);
        Due.throwing("11: the motion work is in", UnsupportedOperationException.class,
                () -> bench.setCalendar('q'));
        Due.throwing("11: the kind first", IllegalArgumentException.class, () -> bench.setCalendar('r'));
        bench.takeOut(8);
        Due.isChar("11: plain at first", bench.setCalendar('a'), 'p');
        Due.is("11: the last day of an annual February", bench.calendar('d'), 30);
        Due.isChar("11: annual before", bench.setCalendar('q'), 'a');
        Due.is("11: the last day of a true February", bench.calendar('d'), 28);
        Due.isChar("11: perpetual before", bench.setCalendar('p'), 'q');
        Due.is("11: the day stays", bench.calendar('d'), 28);
        Due.throwing("11: no such kind", IllegalArgumentException.class, () -> bench.setCalendar('P'));
        bench.setDate(31, 2, 0);
        bench.setCalendar('q');
        Due.is("11: the leap year", bench.calendar('d'), 29);
        bench.setDate(31, 3, 0);
        bench.setCalendar('a');
        Due.is("11: a month of 31 days", bench.calendar('d'), 31);
    }

    private static void setStrike() {
        HorologeBench bench = new HorologeBench();
        Due.isChar("12: a rack at first", bench.setStrike('w'), 'r');
        Due.isChar("12: the count wheel before", bench.setStrike('r'), 'w');
        Due.throwing("12: no such kind", IllegalArgumentException.class, () -> bench.setStrike('c'));
        put(bench, 2, 8);
        Due.throwing("12: the motion work is in", UnsupportedOperationException.class,
                () -> bench.setStrike('w'));
        Due.throwing("12: the kind first", IllegalArgumentException.class, () -> bench.setStrike('q'));
        bench.takeOut(8);
        bench.setStrike('w');
        Watches.complete(bench);
        bench.setHands(300);
        Due.is("12: five hours by the wheel", bench.lastStrike(), 5);
        bench.takeOut(9);
        bench.takeOut(8);
        bench.setStrike('r');
        Watches.complete(bench);
        bench.setHands(120);
        Due.is("12: the rack strikes the hour", bench.lastStrike(), 7);
        bench.takeOut(9);
        bench.takeOut(8);
        bench.setStrike('w');
        Watches.complete(bench);
        bench.setHands(60);
        Due.is("12: the wheel has kept its place", bench.lastStrike(), 6);
        bench.setHands(420);
        Due.is("12: 1 behind 12", bench.lastStrike(), 1);
        Due.is("12: all blows", bench.strikes(), 15 + 13 + 6 + 7 + 8 + 9 + 10 + 11 + 12 + 1);
    }
}
