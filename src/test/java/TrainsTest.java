import java.util.NoSuchElementException;

/** Promises 1 to 4 and 61: a new object, and trains. */
public final class TrainsTest {
    public static void main(String[] args) {
        newObject();
        stage();
        train();
        ratios();
        trainWithin();
        Due.end();
    }

    private static void newObject() {
        HorologeBench bench = new HorologeBench();
        Due.isTrue("1: the plate is in", bench.isIn(0));
        for (int part = 1; part <= 9; part++) {
            Due.isFalse("1: part " + part + " is in", bench.isIn(part));
        }
        Due.isChar("1: a lever", bench.setEscapement('c'), 'l');
        Due.isChar("1: a plain calendar", bench.setCalendar('q'), 'p');
        Due.isChar("1: a rack", bench.setStrike('w'), 'r');
        Due.is("1: no blows", bench.strikes(), 0);
        Due.is("1: the time", bench.shows('d'), 0);
        Due.is("1: the year", bench.calendar('y'), 0);
    }

    private static void stage() {
        HorologeBench bench = new HorologeBench();
        Due.is("2: the least wheel", bench.stage(8, 6), 8006);
        Due.is("2: the same ratio", bench.stage(4, 3), 8006);
        Due.is("2: the fewest teeth", bench.stage(12, 1), 72006);
        Due.is("2: the greatest ratio", bench.stage(20, 1), 120006);
        Due.is("2: the pinion sets the size", bench.stage(1000000, 1000000), 8008);
        Due.is("2: from 1 on", bench.stage(1, 2), 8016);
        Due.is("2: the least ratio", bench.stage(2, 5), 8020);
        Due.is("2: shortened first", bench.stage(999999, 999999 / 9), 54006);
        Due.is("2: a pinion with a great prime", bench.stage(113, 19), 113019);
        Due.throwing("2: too steep", NoSuchElementException.class, () -> bench.stage(21, 1));
        Due.throwing("2: too flat", NoSuchElementException.class, () -> bench.stage(39, 100));
        Due.throwing("2: no such pinion", NoSuchElementException.class, () -> bench.stage(100, 23));
        Due.throwing("2: no such wheel", NoSuchElementException.class, () -> bench.stage(121, 20));
        int[] wrong = {0, -1, 1000001, Integer.MIN_VALUE, Integer.MAX_VALUE};
        for (int number : wrong) {
            Due.throwing("2: teeth " + number, IllegalArgumentException.class, () -> bench.stage(number, 1));
            Due.throwing("2: leaves " + number, IllegalArgumentException.class, () -> bench.stage(1, number));
        }
    }

    private static void train() {
        HorologeBench bench = new HorologeBench();
        int[] sixty = {18, 6, 120, 6};
        for (int which = 0; which <= 3; which++) {
            Due.is("3: 60 to 1, " + which, bench.train(60, 1, which), sixty[which]);
        }
        int[] flat = {8, 6, 8, 6};
        int[] steep = {120, 6, 120, 6};
        int[] uneven = {8, 6, 8, 7};
        for (int which = 0; which <= 3; which++) {
            Due.is("3: 16 to 9, " + which, bench.train(16, 9, which), flat[which]);
            Due.is("3: 400 to 1, " + which, bench.train(400, 1, which), steep[which]);
            Due.is("3: 32 to 21, " + which, bench.train(32, 21, which), uneven[which]);
        }
        Due.is("3: the leaves ahead of the second wheel", bench.train(1, 1, 1), 6);
        Due.is("3: though the second wheel is greater", bench.train(1, 1, 2), 9);
        Due.is("3: a flat one", bench.train(4, 25, 1), 20);
        Due.is("3: great numbers", bench.train(1000000, 1000000, 0), 8);
        Due.throwing("3: none", NoSuchElementException.class, () -> bench.train(401, 1, 0));
        Due.throwing("3: none so flat", NoSuchElementException.class, () -> bench.train(3, 25, 0));
        Due.throwing("3: none with this prime", NoSuchElementException.class, () -> bench.train(127, 7, 2));
        int[] wrong = {0, -7, 1000001, Integer.MIN_VALUE, Integer.MAX_VALUE};
        for (int number : wrong) {
            Due.throwing("3: teeth " + number, IllegalArgumentException.class, () -> bench.train(number, 1, 0));
            Due.throwing("3: leaves " + number, IllegalArgumentException.class, () -> bench.train(1, number, 0));
        }
        Due.throwing("3: which -1", IllegalArgumentException.class, () -> bench.train(60, 1, -1));
        Due.throwing("3: which 4", IllegalArgumentException.class, () -> bench.train(60, 1, 4));
        Due.throwing("3: the range ahead of none", IllegalArgumentException.class, () -> bench.train(401, 1, 4));
    }

    private static void ratios() {
        Due.is("4: ratios", new HorologeBench().ratios(), 1179);
        Due.is("4: of a whole watch too", Watches.wound(3).ratios(), 1179);
    }

    private static void trainWithin() {
        HorologeBench bench = new HorologeBench();
        Due.is("61: 60 to 1", bench.trainWithin(60, 1, 300), 105);
        Due.is("61: just the space", bench.trainWithin(60, 1, 105), 105);
        Due.throwing("61: one less", NoSuchElementException.class, () -> bench.trainWithin(60, 1, 104));
        Due.is("61: the greatest", bench.trainWithin(400, 1, 252), 252);
        Due.is("61: the smallest", bench.trainWithin(16, 9, 28), 28);
        Due.is("61: not the first train", bench.trainWithin(1, 1, 300), 32);
        Due.is("61: the flattest", bench.trainWithin(4, 25, 300), 56);
        Due.throwing("61: a space of 1", NoSuchElementException.class, () -> bench.trainWithin(1, 1, 1));
        Due.throwing("61: no train at all", NoSuchElementException.class, () -> bench.trainWithin(401, 1, 300));
        int[] wrong = {0, -1, 1000001, Integer.MIN_VALUE, Integer.MAX_VALUE};
        for (int number : wrong) {
            Due.throwing("61: teeth " + number, IllegalArgumentException.class,
                    () -> bench.trainWithin(number, 1, 100));
            Due.throwing("61: leaves " + number, IllegalArgumentException.class,
                    () -> bench.trainWithin(1, number, 100));
        }
        Due.throwing("61: no space", IllegalArgumentException.class, () -> bench.trainWithin(60, 1, 0));
        Due.throwing("61: too much space", IllegalArgumentException.class, () -> bench.trainWithin(60, 1, 301));
    }
}
