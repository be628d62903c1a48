/** Sentences of "Terms" and of the first lines, as they hold over several promises. */
public final class TermsTest {
    public static void main(String[] args) {
        ratioIsTheProduct();
        minutesPassOneByOne();
        restIsKept();
        minutesOfOneThatStandsAreNone();
        bentHandStrikesAndRingsByTheTrueTime();
        calendarGoesOnWithABentHand();
        smallForceStillStrikes();
        countWheelStrikesWhateverTheHour();
        correctorsStrikeNothing();
        moonAndSunOfASetDate();
        zoneFollowsAnyCalendar();
        splitHandAndACam();
        objectsBesideEachOther();
        longestRun();
        manyTurns();
        Due.end();
    }

    private static HorologeBench even() {
        HorologeBench bench = Watches.made(true, false, 'l');
        bench.setPosition(-3);
        bench.wind(8);
        return bench;
    }

    /** A stage has its numbers in their bounds, and the product of both is the ratio that was asked. */
    private static void ratioIsTheProduct() {
        HorologeBench bench = new HorologeBench();
        int calls = 0;
        for (int teeth = 1; teeth <= 400; teeth += 7) {
            for (int leaves = 1; leaves <= 19; leaves += 3) {
                if (calls++ % 100 == 0) {
                    bench = new HorologeBench();
                }
                trainHasRatio(bench, teeth, leaves);
            }
        }
    }

    private static void trainHasRatio(HorologeBench bench, int teeth, int leaves) {
        int[] train = new int[4];
        try {
            for (int which = 0; which <= 3; which++) {
                train[which] = bench.train(teeth, leaves, which);
            }
        } catch (java.util.NoSuchElementException e) {
            Due.isFalse("3: there is a train for " + teeth + " to " + leaves, isThereATrain(teeth, leaves));
            return;
        }
        boolean isWithin = train[0] >= 8 && train[0] <= 120 && train[2] >= 8 && train[2] <= 120
                && train[1] >= 6 && train[1] <= 20 && train[3] >= 6 && train[3] <= 20;
        Due.isTrue("3: within its bounds, " + teeth + " to " + leaves, isWithin);
        Due.is("3: the product, " + teeth + " to " + leaves, (long) train[0] * train[2] * leaves,
                (long) train[1] * train[3] * teeth);
    }

    private static boolean isThereATrain(int teeth, int leaves) {
        for (int pinions = 36; pinions <= 400; pinions++) {
            boolean isWhole = (long) teeth * pinions % leaves == 0;
            if (isWhole && isProduct(pinions, 6, 20) && isProduct((long) teeth * pinions / leaves, 8, 120)) {
                return true;
            }
        }
        return false;
    }

    private static boolean isProduct(long product, int least, int most) {
        for (int one = least; one <= most; one++) {
            if (product % one == 0 && product / one >= least && product / one <= most) {
                return true;
            }
        }
        return false;
    }

    private static HorologeBench uneven() {
        HorologeBench bench = Watches.withEscapement('c', 6);
        bench.setPosition(60);
        bench.setWarmth(31);
        bench.setPoise(-13);
        for (int hour = 0; hour <= 23; hour++) {
            bench.setHourRate(hour, 5 * hour % 61 - 30);
        }
        bench.setAlarm(200);
        bench.push('a');
        return bench;
    }

    private static void minutesPassOneByOne() {
        HorologeBench atOnce = uneven();
        HorologeBench singly = uneven();
        int seconds = 0;
        for (int minute = 0; minute < 110; minute++) {
            seconds += singly.pass(1);
        }
        Due.is("21: as many seconds as one by one", atOnce.pass(110), seconds);
        Due.isTrue("21: with something gained or lost", seconds != 6600);
        Due.isTrue("21: and all is alike then", Later.answers(atOnce).equals(Later.answers(singly)));
    }

    private static HorologeBench withARest() {
        HorologeBench bench = Watches.made(true, false, 'l');
        bench.wind(8);
        bench.setPosition(57);
        bench.pass(23);
        return bench;
    }

    private static void restStays(String what, HorologeBench bench) {
        Due.is("21: the rest of 1380 is kept, " + what, bench.pass(1), 61);
        Due.is("21: and is used then, " + what, bench.pass(1), 60);
    }

    private static void restIsKept() {
        restStays("at once", withARest());
        HorologeBench turned = withARest();
        turned.setHands(300);
        turned.setHands(-720);
        restStays("as the hands are turned", turned);
        HorologeBench apart = withARest();
        apart.takeOut(1);
        apart.putIn(1);
        apart.wind(8);
        restStays("as it is taken apart", apart);
        HorologeBench held = withARest();
        held.crown(2);
        held.pass(2000);
        held.crown(-1);
        restStays("as it stands", held);
        HorologeBench wound = withARest();
        wound.wind(3);
        restStays("as it is wound", wound);
        HorologeBench dated = Watches.moveTo(withARest(), 720);
        dated.setDate(4, 4, 1);
        restStays("as the date is set", dated);
    }

    private static void minutesOfOneThatStandsAreNone() {
        HorologeBench bench = even();
        bench.pass(10);
        bench.crown(2);
        bench.pass(500);
        bench.crown(0);
        bench.setPosition(57);
        bench.pass(24);
        Due.isExactly("67: only minutes of going are counted", bench.meanGain(), 1.0 / 34.0);
        Due.isTrue("68: it is sound", bench.isSound());
    }

    private static void bentHandStrikesAndRingsByTheTrueTime() {
        HorologeBench bench = Watches.at(54);
        bench.setFault('b', true);
        bench.setAlarm(58);
        bench.setHands(1);
        Due.is("27: bent, at what looks like the full hour", bench.strikes(), 0);
        Due.is("24: which is shown", bench.shows('m'), 0);
        bench.setHands(2);
        Due.is("31: bent, at 57", bench.rings(), 0);
        bench.setHands(1);
        Due.is("31: bent, at 58", bench.rings(), 1);
        Due.is("23: bent, the time is told as it is", bench.setHands(1), 59);
        bench.setHands(1);
        Due.is("27: bent, at the full hour", bench.strikes(), 1);
        bench.jumpZone(2);
        Due.is("51: bent, the hour of the zone", bench.zone('h'), 3);
    }

    private static void calendarGoesOnWithABentHand() {
        HorologeBench bench = Watches.at(1434);
        bench.setFault('b', true);
        bench.setHands(5);
        Due.is("25: bent, a minute ahead of midnight", bench.calendar('d'), 1);
        Due.is("44: bent, the moon waits too", bench.moon(), 0);
        bench.setHands(1);
        Due.is("25: bent, at midnight", bench.calendar('d'), 2);
        Due.is("44: bent, the moon goes on", bench.moon(), 32);
    }

    /** What stops first is only told: no sentence lets the strike, the alarm or the chronograph rest. */
    private static void smallForceStillStrikes() {
        HorologeBench bench = Watches.withMinutes(120);
        bench.setAlarm(90);
        bench.push('a');
        Due.is("42: strike and chronograph have not the force", bench.stopsFirst(), 3);
        int seconds = bench.pass(119);
        Due.is("27: a full hour strikes with a force of 1", bench.lastStrike(), 1);
        Due.is("31: the alarm rings with a force of 1", bench.rings(), 1);
        Due.is("33: the chronograph counts with a force of 1", bench.chronograph(false), seconds);
        HorologeBench unwound = Watches.at(719);
        unwound.setAlarm(720);
        unwound.setHands(1);
        Due.is("27: noon strikes without any force", unwound.strikes(), 12);
        Due.is("31: it rings without any force", unwound.rings(), 1);
    }

    private static void countWheelStrikesWhateverTheHour() {
        HorologeBench bench = new HorologeBench();
        bench.setStrike('w');
        Watches.complete(bench);
        Watches.moveTo(bench, 1379);
        for (int strike = 1; strike <= 13; strike++) {
            bench.setHands(1);
            Due.is("28: at 23 hours, for the time " + strike, bench.lastStrike(), Watches.onTwelve(strike));
            bench.setHands(-1);
        }
        Due.is("27: all of them", bench.strikes(), 79);
    }

    private static void correctorsStrikeNothing() {
        HorologeBench bench = Watches.at(720);
        bench.setAlarm(720);
        bench.setDate(31, 12, 3);
        bench.jumpZone(3);
        bench.setMoonAge(9);
        bench.crown(1);
        Due.is("27: no blow by a corrector", bench.strikes(), 0);
        Due.is("31: no ring by a corrector", bench.rings(), 0);
        Due.is("24: the hands stay", bench.shows('d'), 43200);
    }

    private static void moonAndSunOfASetDate() {
        HorologeBench bench = Watches.at(720);
        bench.setEquation(11, 16);
        bench.setMoonAge(100);
        bench.setDate(3, 11, 2);
        Due.is("48: by the month that was set", bench.sunTime(), 43200 + 960);
        Due.is("44: the moon stays", bench.moon(), 100);
        bench.setDate(30, 11, 2);
        bench.takeOut(9);
        bench.takeOut(8);
        bench.setCalendar('q');
        Watches.complete(bench);
        Watches.passMidnights(bench, 1);
        Due.is("48: by the next month", bench.sunTime(), 43200);
        Due.is("44: the moon goes on", bench.moon(), 132);
    }

    /** The date of the zone is that of the calendar as it is now, not as it was when the hand jumped. */
    private static void zoneFollowsAnyCalendar() {
        HorologeBench bench = Watches.at(720);
        bench.setDate(28, 2, 1);
        for (int jump = 0; jump < 4; jump++) {
            bench.jumpZone(3);
        }
        Due.isTrue("51: just midnight there, by a plain calendar", (bench.zone('d') + "." + bench.zone('m'))
                .equals("29.2"));
        bench.takeOut(9);
        bench.takeOut(8);
        bench.setCalendar('q');
        Due.isTrue("51: by a perpetual one", (bench.zone('d') + "." + bench.zone('m')).equals("1.3"));
        bench.setDate(28, 2, 0);
        Due.isTrue("51: in the leap year", (bench.zone('d') + "." + bench.zone('m')).equals("29.2"));
        Due.is("51: its hour", bench.zone('h'), 0);
    }

    private static void splitHandAndACam() {
        HorologeBench bench = new HorologeBench();
        bench.setChronograph('c');
        bench.setFusee(true);
        Watches.complete(bench).wind(8);
        bench.setPosition(-3);
        bench.push('a');
        bench.pass(4);
        bench.push('s');
        bench.pass(1);
        bench.push('a');
        Due.is("33: a cam leaves the second hand where it stands", bench.chronograph(true), 240);
        Due.is("32: as it stands, a cam brings to 0", bench.push('b'), 0);
        Due.is("33: and joins both", bench.chronograph(true), 0);
    }

    /** Nothing is shared by two objects. */
    private static void objectsBesideEachOther() {
        String due = Later.answers(new HorologeBench());
        HorologeBench fresh = new HorologeBench();
        HorologeBench used = Watches.busy();
        Later.answers(used);
        Due.isTrue("1: an object beside a used one", Later.answers(fresh).equals(due));
        Due.isTrue("1: an object made behind a used one", Later.answers(new HorologeBench()).equals(due));
    }

    /** Nearly 512 calls, of which 460 wind and go on: the sums of a watch that gains nothing. */
    private static void longestRun() {
        HorologeBench bench = even();
        bench.push('a');
        for (int round = 0; round < 230; round++) {
            bench.wind(6);
            bench.pass(2000);
        }
        // 460000 minutes are 319 days, 10 hours and 40 minutes.
        Due.is("65: 460000 minutes", bench.turned(), 27600000L);
        Due.is("33: as many seconds", bench.chronograph(false), 27600000);
        Due.is("64: by the counter of 30", bench.counter('m'), 10);
        Due.is("64: by the counter of 12", bench.counter('h'), 10);
        Due.is("27: all blows", bench.strikes(), 319 * 156 + 55);
        Due.is("44: 319 days of the moon", bench.moon(), 768);
        Due.isExactly("67: nothing gained", bench.meanGain(), 0.0);
        Due.isTrue("68: sound", bench.isSound());
    }

    private static void manyTurns() {
        HorologeBench bench = new HorologeBench();
        bench.addArbor();
        bench.addStar(0, 7);
        for (int call = 0; call < 500; call++) {
            bench.turn(1000, 1);
        }
        Due.is("59: 500000 turns", bench.turnsOf(0, 'n'), 500000);
        Due.is("60: so many points on", bench.star(0), 500000 % 7);
    }
}
