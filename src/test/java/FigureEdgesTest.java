/** Promises 62 and 65 to 68 at their edges: the surprise piece, and figures. */
public final class FigureEdgesTest {
    public static void main(String[] args) {
        surpriseWithTheMotionWorkOut();
        firstMinuteOfEachHour();
        firstMinuteToTheSecond();
        firstMinuteOfABentOne();
        firstMinuteWithTheSurprisePiece();
        turnedAsItWent();
        turnedByNothingElse();
        fullnessOfAllSprings();
        gainOfOneThatNeverWent();
        gainOfOneMinute();
        gainOnTheAverage();
        soundAtFirst();
        soundWithEachSetOfParts();
        soundByDates();
        soundByBlows();
        soundByRates();
        Due.end();
    }

    private static HorologeBench ahead() {
        HorologeBench bench = new HorologeBench();
        bench.setSurprise(false);
        return Watches.complete(bench);
    }

    /** As it stands, but with the motion work exchanged and no surprise piece. */
    private static HorologeBench withoutSurprise(HorologeBench bench) {
        bench.takeOut(9);
        bench.takeOut(8);
        bench.setSurprise(false);
        bench.putIn(8);
        bench.putIn(9);
        return bench;
    }

    private static void surpriseWithTheMotionWorkOut() {
        for (boolean isThere : new boolean[] {true, false}) {
            Refused.unsupported("62: the motion work is in, " + isThere, () -> Watches.busyWithout(9),
                    it -> it.setSurprise(isThere));
            Refused.unsupported("62: it is in, with the piece, " + isThere, Watches::whole,
                    it -> it.setSurprise(isThere));
            HorologeBench bench = Watches.busyWithout(9, 8);
            Due.isFalse("62: it is out, " + isThere, bench.setSurprise(isThere));
            Due.is("62: the piece is told, " + isThere, bench.setSurprise(true) ? 1 : 0, isThere ? 1 : 0);
        }
    }

    private static void firstMinuteOfEachHour() {
        for (int hour = 0; hour <= 23; hour++) {
            HorologeBench bench = Watches.moveTo(ahead(), 60 * hour);
            Due.is("62: the first minute of hour " + hour, bench.repeat(), 10000 * Watches.onTwelve(hour) + 314);
            bench.setHands(1);
            Due.is("62: the second minute of hour " + hour, bench.repeat(), 10000 * Watches.onTwelve(hour) + 1);
            bench.setHands(58);
            Due.is("62: the last minute of hour " + hour, bench.repeat(), 10000 * Watches.onTwelve(hour) + 314);
            bench.setHands(1);
            Due.is("62: the new hour behind " + hour, bench.repeat(), 10000 * Watches.onTwelve(hour + 1) + 314);
        }
    }

    private static void firstMinuteToTheSecond() {
        for (int hour : new int[] {0, 1, 11, 12, 13, 23}) {
            HorologeBench first = withoutSurprise(Watches.atLastSecond(60 * hour));
            Due.is("62: the last second of the first minute of hour " + hour, first.repeat(),
                    10000 * Watches.onTwelve(hour) + 314);
            HorologeBench second = withoutSurprise(Watches.atLastSecond(60 * hour + 1));
            Due.is("62: the last second of the second minute of hour " + hour, second.repeat(),
                    10000 * Watches.onTwelve(hour) + 1);
            HorologeBench last = withoutSurprise(Watches.atLastSecond(60 * hour + 59));
            Due.is("62: the last second of hour " + hour, last.repeat(), 10000 * Watches.onTwelve(hour) + 314);
        }
    }

    private static void firstMinuteOfABentOne() {
        int[][] due = {{0, 314}, {1, 6}, {54, 314}, {55, 0}, {59, 4}};
        for (int[] minute : due) {
            HorologeBench bench = Watches.moveTo(ahead(), 420 + minute[0]);
            bench.setFault('b', true);
            Due.is("62: bent, in minute " + minute[0], bench.repeat(), 70000 + minute[1]);
        }
    }

    private static void firstMinuteWithTheSurprisePiece() {
        for (int minute : new int[] {0, 1, 59}) {
            int due = minute == 59 ? 314 : minute;
            Due.is("62: with the piece, in minute " + minute, Watches.at(420 + minute).repeat(), 70000 + due);
        }
        HorologeBench bench = ahead();
        bench.takeOut(9);
        bench.takeOut(8);
        bench.setSurprise(true);
        Watches.complete(bench);
        Due.is("62: put in again", bench.repeat(), 120000);
    }

    private static void turnedAsItWent() {
        HorologeBench bench = Watches.made(true, false, 'l');
        bench.wind(8);
        Due.is("65: nothing yet", bench.turned(), 0);
        bench.setPosition(57);
        bench.pass(23);
        Due.is("65: with nothing gained", bench.turned(), 1380);
        bench.pass(1);
        Due.is("65: with a second gained", bench.turned(), 1441);
        bench.setPosition(-60);
        bench.pass(1);
        Due.is("65: with a second lost", bench.turned(), 1500);
    }

    private static void turnedByNothingElse() {
        HorologeBench bench = Watches.busy();
        long turned = bench.turned();
        bench.setHands(720);
        bench.setHands(-720);
        Due.is("65: not as the hands are turned", bench.turned(), turned);
        bench.crown(2);
        bench.pass(2000);
        Due.is("65: not as it stands", bench.turned(), turned);
        bench.push('b');
        Due.is("65: not by the chronograph", bench.turned(), turned);
        bench.takeOut(9);
        bench.takeOut(8);
        Due.is("65: it stays as parts are taken out", bench.turned(), turned);
    }

    private static void fullnessOfAllSprings() {
        Due.isExactly("66: with the plate alone", new HorologeBench().fullness(), 0.0);
        for (int minutes : new int[] {0, 1, 2, 1439, 1440, 2519, 2520, 2521, 2879, 2880}) {
            Due.isExactly("66: minutes " + minutes, Watches.withMinutes(minutes).fullness(),
                    (float) minutes / (float) 2880);
        }
        HorologeBench stopworks = Watches.made(false, true, 'l');
        stopworks.wind(8);
        Due.isExactly("66: stopworks at their end", stopworks.fullness(), 0.875);
        stopworks.takeOut(1);
        Due.isExactly("66: let down", stopworks.fullness(), 0.0);
    }

    private static void gainOfOneThatNeverWent() {
        Refused.arithmetic("67: with the plate alone", HorologeBench::new, HorologeBench::meanGain);
        Refused.arithmetic("67: wound alone", () -> Watches.wound(8), HorologeBench::meanGain);
        Refused.arithmetic("67: as its hands were turned alone", () -> Watches.at(720), HorologeBench::meanGain);
        Refused.arithmetic("67: as it stood", () -> {
            HorologeBench bench = Watches.wound(8);
            bench.crown(2);
            bench.pass(2000);
            return bench;
        }, HorologeBench::meanGain);
    }

    private static void gainOfOneMinute() {
        HorologeBench even = Watches.wound(3);
        even.pass(1);
        Due.isExactly("67: nothing", even.meanGain(), 0.0);
        HorologeBench slow = Watches.wound(2);
        slow.pass(1);
        Due.isExactly("67: a second lost", slow.meanGain(), -1.0);
        slow.takeOut(9);
        Due.isExactly("67: it stays as parts are taken out", slow.meanGain(), -1.0);
    }

    private static void gainOnTheAverage() {
        HorologeBench bench = Watches.made(true, false, 'l');
        bench.wind(8);
        bench.setPosition(57);
        bench.pass(23);
        Due.isExactly("67: nothing gained yet", bench.meanGain(), 0.0);
        bench.pass(1);
        Due.isExactly("67: a second in 24 minutes", bench.meanGain(), 1.0 / 24.0);
        bench.setHands(700);
        Due.isExactly("67: hands that are turned are not looked at", bench.meanGain(), 1.0 / 24.0);
        bench.setPosition(-60);
        bench.pass(1);
        Due.isExactly("67: gained and lost", bench.meanGain(), 0.0);
        bench.setPosition(-30);
        bench.pass(1);
        bench.pass(70);
        Due.isExactly("67: a second lost in 96 minutes", bench.meanGain(), -1.0 / 96.0);
    }

    private static void soundAtFirst() {
        Due.isTrue("68: a new one", new HorologeBench().isSound());
        Due.isTrue("68: a whole one", Watches.whole().isSound());
        Due.isTrue("68: the busy one", Watches.busy().isSound());
    }

    private static void soundWithEachSetOfParts() {
        HorologeBench bench = Watches.busy();
        for (int part : new int[] {9, 8, 7, 6, 5, 4, 3, 2, 1, 0}) {
            bench.takeOut(part);
            Due.isTrue("68: without part " + part, bench.isSound());
        }
        for (int part = 0; part <= 9; part++) {
            bench.putIn(part);
            Due.isTrue("68: with part " + part, bench.isSound());
        }
    }

    private static void soundByDates() {
        for (int month = 1; month <= 12; month++) {
            HorologeBench bench = Watches.at(720);
            bench.setDate(31, month, 1);
            bench.takeOut(9);
            bench.takeOut(8);
            for (char kind : "aqp".toCharArray()) {
                bench.setCalendar(kind);
                Due.isTrue("68: the last day of month " + month + " by " + kind, bench.isSound());
            }
        }
    }

    private static void soundByBlows() {
        HorologeBench bench = Watches.whole();
        for (int hour = 1; hour <= 24; hour++) {
            bench.setHands(60);
            Due.isTrue("68: the blows of hour " + hour, bench.isSound());
        }
        bench.setHands(-300);
        bench.setHands(300);
        Due.isTrue("68: hours that are passed again", bench.isSound());
        bench.setFault('m', true);
        bench.setHands(720);
        Due.isTrue("68: mispinned", bench.isSound());
        bench.setFault('m', false);
        bench.setHands(720);
        Due.isTrue("68: no longer mispinned", bench.isSound());
        HorologeBench wheel = new HorologeBench();
        wheel.setStrike('w');
        Watches.complete(wheel);
        Watches.moveTo(wheel, 300);
        wheel.setHands(720);
        Due.isTrue("68: a count wheel out of step", wheel.isSound());
    }

    private static void soundByRates() {
        HorologeBench bench = Watches.wound(8);
        for (int rate = -60; rate <= 60; rate += 5) {
            bench.setPosition(rate);
            bench.pass(rate % 2 == 0 ? 17 : 101);
            Due.isTrue("68: by the rate " + rate, bench.isSound());
        }
        bench.pass(2000);
        Due.isTrue("68: to the end of the spring", bench.isSound());
    }
}
