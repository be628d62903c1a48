/** Promises 1 to 4 and 61 at their edges: what is so at first, the least and the greatest of trains. */
public final class TrainEdgesTest {
    private static final int MOST = 1000000;

    public static void main(String[] args) {
        partsAtFirst();
        kindsAtFirst();
        watchAtFirst();
        numbersAtFirst();
        neverAtFirst();
        stageNumbers();
        stageTeeth();
        stageLeaves();
        stageRatios();
        stageTwoExceptions();
        trainNumbers();
        trainWhich();
        trainRatios();
        trainFewestFirst();
        trainTwoExceptions();
        ratiosOfAllStages();
        withinNumbers();
        withinSpace();
        withinJustTheSpace();
        withinTwoExceptions();
        Due.end();
    }

    private static void partsAtFirst() {
        for (int part = 0; part <= 9; part++) {
            Due.is("1: only the plate is put in, " + part, new HorologeBench().isIn(part) ? 1 : 0,
                    part == 0 ? 1 : 0);
        }
    }

    private static void kindsAtFirst() {
        HorologeBench bench = new HorologeBench();
        Due.isChar("1: a lever", bench.setEscapement('l'), 'l');
        Due.isChar("1: a plain calendar", bench.setCalendar('p'), 'p');
        Due.isChar("1: a rack", bench.setStrike('r'), 'r');
        Due.isChar("1: the moon of 59 teeth", bench.setMoon('5'), '5');
        Due.isChar("1: a column wheel", bench.setChronograph('w'), 'w');
        Due.isTrue("1: a surprise piece", bench.setSurprise(true));
        Due.isFalse("1: no fusee", bench.setFusee(false));
        Due.isFalse("1: no stopworks", bench.setStopworks(false));
    }

    private static void watchAtFirst() {
        HorologeBench bench = new HorologeBench();
        Due.is("1: a spring without any minutes", bench.force(), 0);
        Due.isFalse("1: it does not go", bench.goes());
        Due.is("1: the position, the warmth and the hour are nothing", bench.rate(), -12);
        Due.is("1: the warmth", bench.setWarmth(20), 20);
        Due.is("1: the position", bench.setPosition(0), 0);
        Due.is("1: the hands", bench.shows('d'), 0);
        Due.isTrue("1: the date", Watches.date(bench).equals("1.1.0"));
        Due.is("1: the zone", bench.jumpZone(0), 0);
        Due.is("1: the moon", bench.moon(), 0);
        Due.is("1: the alarm", bench.setAlarm(-1), -1);
        Due.is("1: the crown", Watches.complete(bench).crown(-1), -1);
    }

    private static void numbersAtFirst() {
        HorologeBench bench = new HorologeBench();
        Due.is("1: no blow", bench.strikes(), 0);
        Due.is("1: no ring", bench.rings(), 0);
        Due.is("1: the chronograph at 0", bench.chronograph(false), 0);
        Due.is("1: its second hand at 0", bench.chronograph(true), 0);
        Due.is("1: its minutes", bench.counter('m'), 0);
        Due.is("1: its hours", bench.counter('h'), 0);
        Due.is("1: nothing turned", bench.turned(), 0);
        Due.isExactly("1: an empty spring", bench.fullness(), 0);
        Due.isTrue("1: it is sound", bench.isSound());
        Due.is("1: no arbor", bench.addArbor(), 0);
    }

    private static void neverAtFirst() {
        Refused.none("1: it never struck", HorologeBench::new, HorologeBench::lastStrike);
        Refused.arithmetic("1: it never went", HorologeBench::new, HorologeBench::meanGain);
        Refused.noSuch("1: no arbor", 1, 0, HorologeBench::new, (bench, arbor) -> bench.turnsOf(arbor, 'n'));
    }

    private static void stageNumbers() {
        HorologeBench bench = new HorologeBench();
        Due.is("2: both 1", bench.stage(1, 1), 8008);
        Due.is("2: the least leaves", bench.stage(20, 1), 120006);
        Due.is("2: the least teeth", bench.stage(1, 2), 8016);
        Due.is("2: the most teeth", bench.stage(MOST, 50000), 120006);
        Due.is("2: the most leaves", bench.stage(400000, MOST), 8020);
        Due.is("2: the most of both", bench.stage(MOST, MOST), 8008);
        Refused.outside("2: teeth", 1, MOST, Watches::busy, (it, number) -> it.stage(number, 60));
        Refused.outside("2: leaves", 1, MOST, Watches::busy, (it, number) -> it.stage(60, number));
    }

    private static void stageTeeth() {
        HorologeBench bench = new HorologeBench();
        Due.is("2: a wheel of 8", bench.stage(8, 15), 8015);
        Due.is("2: no wheel of 7, but of 14", bench.stage(7, 8), 14016);
        Refused.none("2: no wheel of 7 where 14 have no pinion", Watches::busy, it -> it.stage(7, 11));
        Due.is("2: a wheel of 120", bench.stage(120, 19), 120019);
        Refused.none("2: no wheel of 121", Watches::busy, it -> it.stage(121, 19));
    }

    private static void stageLeaves() {
        HorologeBench bench = new HorologeBench();
        Due.is("2: a pinion of 6", bench.stage(119, 6), 119006);
        Refused.none("2: no pinion of 5, and none of 10", Watches::busy, it -> it.stage(119, 5));
        Due.is("2: no pinion of 5, but of 10", bench.stage(59, 5), 118010);
        Due.is("2: a pinion of 20", bench.stage(107, 20), 107020);
        Refused.none("2: no pinion of 21", Watches::busy, it -> it.stage(107, 21));
    }

    private static void stageRatios() {
        HorologeBench bench = new HorologeBench();
        Due.is("2: the greatest ratio", bench.stage(999980, 49999), 120006);
        Refused.none("2: a little more", Watches::busy, it -> it.stage(999981, 49999));
        Due.is("2: the least ratio", bench.stage(399998, 999995), 8020);
        Refused.none("2: a little less", Watches::busy, it -> it.stage(399997, 999995));
        Due.is("2: the fewest teeth of three wheels", bench.stage(11, 3), 22006);
    }

    private static void stageTwoExceptions() {
        Refused.argument("2: beyond the range, and none", Watches::busy, it -> it.stage(MOST + 1, 1));
        Refused.argument("2: 0, and none", Watches::busy, it -> it.stage(0, 7));
        Refused.argument("2: below 0, though the ratio is", Watches::busy, it -> it.stage(-8, -6));
        Refused.argument("2: beyond, though the ratio is", Watches::busy, it -> it.stage(1000008, 750006));
    }

    private static void trainNumbers() {
        Due.isTrue("3: both 1", train(1, 1).equals("8 6 9 12 "));
        Due.isTrue("3: the most teeth", train(MOST, 2500).equals("120 6 120 6 "));
        Due.isTrue("3: the most leaves", train(160000, MOST).equals("8 20 8 20 "));
        Due.isTrue("3: the most of both", train(MOST, MOST).equals("8 6 9 12 "));
        for (int which = 0; which <= 3; which++) {
            int any = which;
            Refused.outside("3: teeth, " + which, 1, MOST, Watches::busy, (it, number) -> it.train(number, 60, any));
            Refused.outside("3: leaves, " + which, 1, MOST, Watches::busy, (it, number) -> it.train(60, number, any));
        }
    }

    private static String train(int teeth, int leaves) {
        HorologeBench bench = new HorologeBench();
        StringBuilder all = new StringBuilder();
        for (int which = 0; which <= 3; which++) {
            all.append(bench.train(teeth, leaves, which)).append(' ');
        }
        return all.toString();
    }

    private static void trainWhich() {
        HorologeBench bench = new HorologeBench();
        Due.is("3: which 0", bench.train(720, 7, 0), 36);
        Due.is("3: which 3", bench.train(720, 7, 3), 7);
        Refused.outside("3: which", 0, 3, Watches::busy, (it, which) -> it.train(60, 1, which));
    }

    private static void trainRatios() {
        Due.isTrue("3: the greatest ratio", train(999600, 2499).equals("120 6 120 6 "));
        Refused.none("3: a little more", Watches::busy, it -> it.train(999601, 2499, 0));
        Due.isTrue("3: the least ratio", train(159996, 999975).equals("8 20 8 20 "));
        Refused.none("3: a little less", Watches::busy, it -> it.train(159995, 999975, 3));
        Refused.none("3: a prime that no wheel has", Watches::busy, it -> it.train(127, 10, 1));
        Due.isTrue("3: a prime that a wheel has", train(113, 10).equals("8 8 113 10 "));
    }

    private static void trainFewestFirst() {
        Due.isTrue("3: the fewest teeth of the first wheel", train(60, 1).equals("18 6 120 6 "));
        Due.isTrue("3: then the fewest leaves", train(2, 1).equals("8 6 9 6 "));
        Due.isTrue("3: with more leaves, where fewer have no second stage", train(8, 19).equals("8 8 8 19 "));
        Due.isTrue("3: with more teeth, where fewer have no second stage", train(720, 7).equals("36 6 120 7 "));
        Due.isTrue("3: the second wheel has the fewest teeth", train(4, 3).equals("8 6 8 8 "));
    }

    private static void trainTwoExceptions() {
        Refused.argument("3: the range ahead of none", Watches::busy, it -> it.train(MOST + 1, 1, 0));
        Refused.argument("3: no such which ahead of none", Watches::busy, it -> it.train(401, 1, 4));
        Refused.argument("3: no such which ahead of none, below 0", Watches::busy, it -> it.train(401, 1, -1));
    }

    private static void ratiosOfAllStages() {
        int different = 0;
        HorologeBench bench = new HorologeBench();
        int calls = 0;
        for (int teeth = 8; teeth <= 120; teeth++) {
            for (int leaves = 6; leaves <= 20; leaves++) {
                if (calls++ % 500 == 0) {
                    bench = new HorologeBench();
                }
                different += bench.stage(teeth, leaves) == 1000 * teeth + leaves ? 1 : 0;
            }
        }
        Due.is("4: each ratio once, at its smallest stage", bench.ratios(), different);
    }

    private static void withinNumbers() {
        HorologeBench bench = new HorologeBench();
        Due.is("61: both 1", bench.trainWithin(1, 1, 300), 32);
        Due.is("61: the most teeth", bench.trainWithin(MOST, 2500, 300), 252);
        Due.is("61: the most leaves", bench.trainWithin(160000, MOST, 300), 56);
        Refused.outside("61: teeth", 1, MOST, Watches::busy, (it, number) -> it.trainWithin(number, 60, 300));
        Refused.outside("61: leaves", 1, MOST, Watches::busy, (it, number) -> it.trainWithin(60, number, 300));
    }

    private static void withinSpace() {
        HorologeBench bench = new HorologeBench();
        Due.is("61: the greatest space", bench.trainWithin(60, 1, 300), 105);
        Refused.none("61: the least space has no train", Watches::busy, it -> it.trainWithin(16, 9, 1));
        Refused.outside("61: space", 1, 300, Watches::busy, (it, space) -> it.trainWithin(60, 1, space));
    }

    private static void withinJustTheSpace() {
        HorologeBench bench = new HorologeBench();
        Due.is("61: the smallest train", bench.trainWithin(16, 9, 28), 28);
        Refused.none("61: less than the smallest one", Watches::busy, it -> it.trainWithin(16, 9, 27));
        Due.is("61: a great train", bench.trainWithin(14400, 361, 278), 278);
        Refused.none("61: one less than a great train", Watches::busy, it -> it.trainWithin(14400, 361, 277));
        Refused.none("61: no train at all", Watches::busy, it -> it.trainWithin(401, 1, 300));
    }

    private static void withinTwoExceptions() {
        Refused.argument("61: the range ahead of none", Watches::busy, it -> it.trainWithin(MOST + 1, 1, 300));
        Refused.argument("61: the space ahead of none", Watches::busy, it -> it.trainWithin(401, 1, 301));
        Refused.argument("61: no space ahead of none", Watches::busy, it -> it.trainWithin(401, 1, 0));
    }
}
