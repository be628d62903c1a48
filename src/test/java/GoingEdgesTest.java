/** Promises 13 to 22 at their edges: the spring, escapements, rates, minutes and what explains a gain. */
public final class GoingEdgesTest {
    public static void main(String[] args) {
        turnsOfTheCrown();
        springJustFull();
        stopworksJustAtTheirEnd();
        windingWantsAllParts();
        windingWantsTheCrown();
        windingTwoExceptions();
        forceByMinutes();
        forceOfAFusee();
        whatEachEscapementNeeds();
        whatDirtNeeds();
        whatStopworksNeed();
        whatAFuseeNeeds();
        crownThatStops();
        shockStopsOnlyADetent();
        shockUntilItIsWound();
        shockUntilAnotherEscapement();
        shockOfOneThatStands();
        positions();
        warmths();
        faults();
        rateByForce();
        rateByWarmth();
        rateByHour();
        rateByPoise();
        rateWornOrNot();
        rateExtremes();
        minutesThatPass();
        minutesOfAnEndingSpring();
        restJustFull();
        restJustBelowNothing();
        ratesOfEachMinute();
        explainsJustTheRate();
        explainsWithoutForce();
        explainsExtremes();
        Due.end();
    }

    private static void turnsOfTheCrown() {
        Due.is("13: one turn", Watches.whole().wind(1), 360);
        Due.is("13: seven turns", Watches.whole().wind(7), 2520);
        Due.is("13: eight turns", Watches.whole().wind(8), 2880);
        Refused.outside("13: turns", 1, 8, Watches::busy, HorologeBench::wind);
        Refused.outside("13: turns, unwound", 1, 8, Watches::whole, HorologeBench::wind);
    }

    private static void springJustFull() {
        Due.is("13: a minute is not full", Watches.withMinutes(2519).wind(1), 2879);
        Due.is("13: just full", Watches.withMinutes(2520).wind(1), 2880);
        Due.is("13: a minute is lost", Watches.withMinutes(2521).wind(1), 2880);
        Due.is("13: a full one", Watches.withMinutes(2880).wind(1), 2880);
        Due.is("13: a full one, eight turns", Watches.withMinutes(2880).wind(8), 2880);
        Due.is("13: of one minute", Watches.withMinutes(1).wind(1), 361);
    }

    private static HorologeBench stopworks(int minutes) {
        return Watches.windTo(Watches.made(false, true, 'l'), minutes);
    }

    private static void stopworksJustAtTheirEnd() {
        Due.is("13: a minute ahead of their end", stopworks(2159).wind(1), 2519);
        Due.is("13: just at their end", stopworks(2160).wind(1), 2520);
        Due.is("13: a minute is lost", stopworks(2161).wind(1), 2520);
        Due.is("13: at their end already", stopworks(2520).wind(1), 2520);
        Due.is("13: seven turns to their end", Watches.made(false, true, 'l').wind(7), 2520);
        Due.is("13: eight turns to their end", Watches.made(false, true, 'l').wind(8), 2520);
    }

    private static void windingWantsAllParts() {
        for (int part : new int[] {1, 7, 9}) {
            Refused.state("13: without part " + part, () -> Watches.busyWithout(part), it -> it.wind(1));
        }
        Refused.state("13: with the plate alone", HorologeBench::new, it -> it.wind(8));
        Refused.state("13: with nothing", () -> Watches.busyWithout(9, 8, 7, 6, 5, 4, 3, 2, 1, 0), it -> it.wind(1));
    }

    private static void windingWantsTheCrown() {
        Due.is("13: without a crown", Watches.busyWithCrown(-1).wind(1), 2133);
        Due.is("13: the crown winds", Watches.busyWithCrown(0).wind(1), 2133);
        Refused.state("13: the crown sets the date", () -> Watches.busyWithCrown(1), it -> it.wind(1));
        Refused.state("13: the crown sets the hands", () -> Watches.busyWithCrown(2), it -> it.wind(1));
    }

    private static void windingTwoExceptions() {
        Refused.argument("13: 0 turns, not whole", HorologeBench::new, it -> it.wind(0));
        Refused.argument("13: 9 turns, not whole", HorologeBench::new, it -> it.wind(9));
        Refused.argument("13: 0 turns by the wrong crown", () -> Watches.busyWithCrown(1), it -> it.wind(0));
        Refused.argument("13: 9 turns by the wrong crown", () -> Watches.busyWithCrown(2), it -> it.wind(9));
    }

    private static void forceByMinutes() {
        forceIs(0, 0);
        forceIs(1, 1);
        for (int turn = 1; turn <= 8; turn++) {
            forceIs(360 * turn - 1, turn);
            forceIs(360 * turn, turn + 1);
            if (turn < 8) {
                forceIs(360 * turn + 1, turn + 1);
            }
        }
    }

    private static void forceIs(int minutes, int due) {
        HorologeBench bench = Watches.withMinutes(minutes);
        Due.is("14: of minutes " + minutes, bench.force(), due);
        bench.setFault('d', true);
        Due.is("14: dirty, of minutes " + minutes, bench.force(), Math.max(0, due - 1));
        bench.setFault('d', false);
        Due.is("14: clean again, of minutes " + minutes, bench.force(), due);
        Due.isExactly("66: of minutes " + minutes, bench.fullness(), (float) minutes / 2880f);
    }

    private static void forceOfAFusee() {
        for (int minutes : new int[] {1, 359, 360, 1440, 2880}) {
            HorologeBench bench = Watches.windTo(Watches.made(true, false, 'l'), minutes);
            Due.is("14: a fusee, of minutes " + minutes, bench.force(), 5);
            bench.setFault('d', true);
            Due.is("14: a dirty fusee, of minutes " + minutes, bench.force(), 4);
        }
        HorologeBench empty = Watches.made(true, false, 'l');
        Due.is("14: a fusee without any", empty.force(), 0);
        empty.setFault('d', true);
        Due.is("14: a dirty fusee without any", empty.force(), 0);
    }

    /** A watch that goes with these minutes, and not with one less. */
    private static void goesJustWith(String what, HorologeBench made, boolean isDirty, int minutes) {
        made.setFault('d', isDirty);
        HorologeBench bench = Watches.windTo(made, minutes);
        Due.isTrue("15: " + what + " goes", bench.goes());
        Due.is("36: " + what + " goes for a minute more", bench.reserve(), 1);
        Due.isTrue("40: " + what + " swings", bench.swing() == 160 + 20 * bench.force());
        Due.is("21: " + what + " passes one minute", (bench.pass(2) + 30) / 60, 1);
        Due.isFalse("15: " + what + " stops", bench.goes());
        Due.is("36: " + what + " goes no more", bench.reserve(), 0);
        Due.is("40: " + what + " swings no more", bench.swing(), 0);
        Due.is("21: " + what + " passes none", bench.pass(1), 0);
        Due.isExactly("21: " + what + " uses none", bench.fullness(), (minutes - 1) / 2880f);
        Due.isFalse("16: " + what + " is not shaken on", bench.shock());
    }

    private static void whatEachEscapementNeeds() {
        goesJustWith("a lever with 1", Watches.made(false, false, 'l'), false, 1);
        goesJustWith("a cylinder with 2", Watches.made(false, false, 'c'), false, 360);
        goesJustWith("a detent with 3", Watches.made(false, false, 'd'), false, 720);
    }

    private static void whatDirtNeeds() {
        goesJustWith("a dirty lever", Watches.made(false, false, 'l'), true, 360);
        goesJustWith("a dirty cylinder", Watches.made(false, false, 'c'), true, 720);
        goesJustWith("a dirty detent", Watches.made(false, false, 'd'), true, 1080);
    }

    private static void whatStopworksNeed() {
        goesJustWith("a lever with stopworks", Watches.made(false, true, 'l'), false, 360);
        goesJustWith("a dirty lever with stopworks", Watches.made(false, true, 'l'), true, 360);
        goesJustWith("a cylinder with stopworks", Watches.made(false, true, 'c'), false, 360);
        goesJustWith("a detent with stopworks", Watches.made(false, true, 'd'), false, 720);
        goesJustWith("a fusee with stopworks", Watches.made(true, true, 'd'), false, 360);
        goesJustWith("a dirty fusee with stopworks", Watches.made(true, true, 'd'), true, 360);
    }

    private static void whatAFuseeNeeds() {
        for (char kind : "lcd".toCharArray()) {
            goesJustWith("a fusee with " + kind, Watches.made(true, false, kind), false, 1);
            goesJustWith("a dirty fusee with " + kind, Watches.made(true, false, kind), true, 1);
        }
    }

    private static void crownThatStops() {
        for (int place = -1; place <= 1; place++) {
            Due.isTrue("15: it goes with the crown in " + place, Watches.busyWithCrown(place).goes());
        }
        HorologeBench held = Watches.busyWithCrown(2);
        Due.isFalse("15: it does not go with the crown in 2", held.goes());
        Due.is("21: no minute passes for it", held.pass(2000), 0);
        Due.is("40: it does not swing", held.swing(), 0);
        held.crown(1);
        Due.isTrue("15: it goes on with the crown in 1", held.goes());
    }

    private static void shockStopsOnlyADetent() {
        Due.isTrue("16: a lever with 1", Watches.withMinutes(1).shock());
        Due.isTrue("16: a cylinder with 2", Watches.withEscapement('c', 1).shock());
        HorologeBench detent = Watches.withEscapement('d', 8);
        Due.isTrue("16: a detent goes", detent.goes());
        Due.isFalse("16: a detent with 9 stops", detent.shock());
        Due.isFalse("16: it stands", detent.goes());
        Due.isFalse("16: a second shock does not start it", detent.shock());
        Due.is("16: its force stays", detent.force(), 9);
        Due.is("40: it does not swing", detent.swing(), 0);
        Due.is("36: its reserve does not look at it", detent.reserve(), 2161);
    }

    private static void shockUntilItIsWound() {
        HorologeBench detent = Watches.withEscapement('d', 8);
        detent.shock();
        Due.is("16: a full spring is wound", detent.wind(1), 2880);
        Due.isTrue("16: and lets it go on", detent.goes());
        detent.shock();
        detent.crown(1);
        Refused.state("16: a refused winding", () -> {
            HorologeBench bench = Watches.busyWithCrown(1);
            bench.shock();
            return bench;
        }, it -> it.wind(1));
        Due.isFalse("16: the crown does not start it", detent.goes());
        detent.setHourRate(0, 3);
        detent.setFault('d', false);
        Due.isFalse("16: nor does anything else", detent.goes());
    }

    private static void shockUntilAnotherEscapement() {
        for (char kind : "lcd".toCharArray()) {
            HorologeBench bench = Watches.withEscapement('d', 8);
            bench.shock();
            bench.takeOut(7);
            bench.takeOut(6);
            bench.takeOut(5);
            bench.setEscapement(kind);
            Watches.complete(bench).wind(2);
            Due.isTrue("16: it goes with " + kind, bench.goes());
            Due.is("16: and only a detent is stopped, " + kind, bench.shock() ? 1 : 0, kind == 'd' ? 0 : 1);
        }
    }

    private static void shockOfOneThatStands() {
        Due.isFalse("16: with the plate alone", new HorologeBench().shock());
        Due.isFalse("16: unwound", Watches.whole().shock());
        HorologeBench lever = Watches.wound(1);
        lever.crown(2);
        Due.isFalse("16: held by the crown", lever.shock());
        lever.crown(0);
        Due.isTrue("16: a lever was not stopped by it", lever.goes());
    }

    private static void positions() {
        HorologeBench bench = Watches.withMinutes(1439);
        int before = 0;
        for (int rate = -60; rate <= 60; rate++) {
            Due.is("17: before " + rate, bench.setPosition(rate), before);
            Due.is("17: the rate of " + rate, bench.rate(), rate);
            before = rate;
        }
        Refused.outside("17: rate", -60, 60, Watches::busy, HorologeBench::setPosition);
        Refused.outside("17: rate, with the plate alone", -60, 60, HorologeBench::new, HorologeBench::setPosition);
    }

    private static void warmths() {
        HorologeBench bench = new HorologeBench();
        int before = 20;
        for (int degrees = 0; degrees <= 40; degrees++) {
            Due.is("18: before " + degrees, bench.setWarmth(degrees), before);
            before = degrees;
        }
        Due.is("18: 0 again", bench.setWarmth(0), 40);
        Refused.outside("18: degrees", 0, 40, Watches::busy, HorologeBench::setWarmth);
    }

    private static void faults() {
        for (char fault : "wdbm".toCharArray()) {
            HorologeBench bench = new HorologeBench();
            Due.isFalse("19: at first, " + fault, bench.setFault(fault, true));
            for (char other : "wdbm".toCharArray()) {
                Due.is("19: " + other + " beside " + fault, bench.setFault(other, other == fault) ? 1 : 0,
                        other == fault ? 1 : 0);
            }
            Due.isTrue("19: taken out, " + fault, bench.setFault(fault, false));
            Due.isFalse("19: it is out, " + fault, bench.setFault(fault, false));
        }
        Refused.letters("19: fault put in", "wdbm", Watches::busy, (it, fault) -> it.setFault(fault, true));
        Refused.letters("19: fault taken out", "wdbm", Watches::busy, (it, fault) -> it.setFault(fault, false));
    }

    private static void rateByForce() {
        for (int force = 1; force <= 9; force++) {
            Due.is("20: with the force " + force, Watches.withMinutes(Math.max(1, 360 * (force - 1))).rate(),
                    3 * force - 12);
        }
        Due.is("20: without force", Watches.whole().rate(), -12);
        HorologeBench dirty = Watches.withMinutes(1440);
        dirty.setFault('d', true);
        Due.is("20: dirty, just as much as 4", dirty.rate(), 0);
        dirty.pass(1);
        Due.is("20: dirty, less than 4", dirty.rate(), -3);
    }

    private static void rateByWarmth() {
        HorologeBench bench = Watches.withMinutes(1439);
        int[][] due = {{0, 40}, {1, 38}, {19, 2}, {20, 0}, {21, -2}, {39, -38}, {40, -40}};
        for (int[] pair : due) {
            bench.setWarmth(pair[0]);
            Due.is("20: with degrees " + pair[0], bench.rate(), pair[1]);
        }
    }

    private static void rateByHour() {
        for (int hour = 0; hour <= 23; hour++) {
            HorologeBench bench = Watches.atLastSecond(60 * hour + 59);
            bench.setHourRate(hour, 30);
            bench.setHourRate((hour + 1) % 24, -30);
            Due.is("20: in the last second of hour " + hour, bench.rate(), 30);
            bench.setHands(1);
            Due.is("20: behind hour " + hour, bench.rate(), -30);
            Watches.moveTo(bench, 60 * hour);
            Due.is("20: in the first minute of hour " + hour, bench.rate(), 30);
            bench.setHands(-1);
            Due.is("20: ahead of hour " + hour, bench.rate(), 0);
        }
        HorologeBench bent = Watches.atLastSecond(59);
        bent.setHourRate(0, 7);
        bent.setFault('b', true);
        Due.is("20: the hour is not bent", bent.rate(), 7);
    }

    private static void rateByPoise() {
        for (int error : new int[] {-20, 0, 20}) {
            poiseGives(0, error, -12 + error);
            poiseGives(719, error, -6 + error);
            poiseGives(720, error, -3);
            poiseGives(1079, error, -3);
            poiseGives(1080, error, -error);
            poiseGives(2880, error, 15 - error);
        }
        HorologeBench dirty = Watches.withMinutes(1080);
        dirty.setPoise(20);
        dirty.setFault('d', true);
        Due.is("20: a dirty one of just 220", dirty.rate(), -3);
    }

    private static void poiseGives(int minutes, int error, int due) {
        HorologeBench bench = Watches.withMinutes(minutes);
        bench.setPoise(error);
        Due.is("20: the error " + error + " with minutes " + minutes, bench.rate(), due);
    }

    private static void rateWornOrNot() {
        HorologeBench bench = Watches.withMinutes(1439);
        bench.setFault('w', true);
        Due.is("20: worn", bench.rate(), -30);
        bench.setFault('w', false);
        Due.is("20: not worn", bench.rate(), 0);
    }

    private static void rateExtremes() {
        HorologeBench fast = Watches.wound(8);
        fast.setPosition(60);
        fast.setWarmth(0);
        fast.setHourRate(0, 30);
        fast.setPoise(-20);
        Due.is("20: the greatest", fast.rate(), 165);
        HorologeBench slow = new HorologeBench();
        slow.setPosition(-60);
        slow.setWarmth(40);
        slow.setHourRate(0, -30);
        slow.setPoise(-20);
        slow.setFault('w', true);
        Due.is("20: the least", slow.rate(), -192);
        Watches.complete(slow).wind(1);
        Due.is("21: the least still loses one second at once", slow.pass(1), 59);
    }

    private static void minutesThatPass() {
        HorologeBench bench = Watches.withMinutes(1439);
        Due.is("21: one minute", bench.pass(1), 60);
        Due.is("21: it stands on the hands", bench.shows('d'), 60);
        HorologeBench long1 = Watches.made(true, false, 'l');
        long1.wind(8);
        long1.setPosition(-3);
        Due.is("21: 2000 minutes", long1.pass(2000), 120000);
        Due.isExactly("21: of the spring too", long1.fullness(), 880f / 2880f);
        Refused.outside("21: minutes", 1, 2000, Watches::busy, HorologeBench::pass);
        Refused.outside("21: minutes, of one that stands", 1, 2000, HorologeBench::new, HorologeBench::pass);
        Due.is("21: with the plate alone", new HorologeBench().pass(2000), 0);
    }

    private static void minutesOfAnEndingSpring() {
        HorologeBench fusee = Watches.windTo(Watches.made(true, false, 'l'), 2000);
        fusee.setPosition(-3);
        Due.is("21: just to its end", fusee.pass(2000), 120000);
        Due.isFalse("21: and then it stands", fusee.goes());
        HorologeBench less = Watches.windTo(Watches.made(true, false, 'l'), 1999);
        less.setPosition(-3);
        Due.is("21: a minute less", less.pass(2000), 1999 * 60);
        HorologeBench cylinder = Watches.windTo(Watches.made(false, false, 'c'), 361);
        cylinder.setPosition(6);
        Due.is("21: a cylinder stops on the way", cylinder.pass(5), 120);
        Due.isExactly("21: its spring stays", cylinder.fullness(), 359f / 2880f);
    }

    /** A watch whose rate is that of its position, with nothing in its rest. */
    private static HorologeBench even() {
        HorologeBench bench = Watches.made(true, false, 'l');
        bench.setFault('d', true);
        bench.wind(8);
        return bench;
    }

    private static int passBy(HorologeBench bench, int rate) {
        bench.setPosition(rate);
        return bench.pass(1);
    }

    private static void restJustFull() {
        HorologeBench bench = even();
        bench.setPosition(60);
        Due.is("21: a rest of 1380", bench.pass(23), 1380);
        Due.is("21: a rest of 1439 is no second", passBy(bench, 59), 60);
        Due.is("21: a rest of 1440 is one", passBy(bench, 1), 61);
        Due.is("21: nothing is left", passBy(bench, 0), 60);
        Due.is("21: so that less is below 0", passBy(bench, -1), 59);
        Due.is("21: 1439 are left of it", passBy(bench, 0), 60);
        Due.is("21: 1441 are a second", passBy(bench, 2), 61);
        Due.is("21: and one is left", passBy(bench, -1), 60);
        Due.is("21: and then none", passBy(bench, -1), 59);
    }

    private static void restJustBelowNothing() {
        HorologeBench bench = even();
        Due.is("21: a rest of 0", passBy(bench, 0), 60);
        Due.is("21: a rest of 60", passBy(bench, 60), 60);
        Due.is("21: just 0 again", passBy(bench, -60), 60);
        Due.is("21: below 0", passBy(bench, -60), 59);
        bench.setPosition(-60);
        Due.is("21: 1380 are left of it, down to 0", bench.pass(23), 1380);
        Due.is("21: below 0 again", bench.pass(1), 59);
    }

    private static void ratesOfEachMinute() {
        HorologeBench bench = Watches.withMinutes(1440);
        bench.pass(2);
        bench.setPosition(-3);
        Due.is("21: 3 by the first force, 0 by the next one", bench.pass(1), 60);
        Due.is("21: so that 3 were in the rest", bench.pass(1), 59);
        HorologeBench hours = even();
        hours.setHands(59);
        hours.setHourRate(0, 5);
        hours.setHourRate(1, -6);
        Due.is("21: in one call, by the hour of each minute", hours.pass(2), 119);
        hours.setHourRate(1, 1);
        Due.is("21: which leaves 1439", hours.pass(1), 61);
    }

    private static void explainsJustTheRate() {
        HorologeBench bench = Watches.withMinutes(1800);
        bench.setPosition(-40);
        bench.setWarmth(10);
        int[][] due = {{-14, 8}, {-17, 2}, {-44, 1}, {286, 4}};
        for (int[] pair : due) {
            Due.is("22: just " + pair[0], bench.explains(pair[0]), pair[1]);
            Due.is("22: one less than " + pair[0], bench.explains(pair[0] - 1), 0);
            Due.is("22: one more than " + pair[0], bench.explains(pair[0] + 1), 0);
        }
        bench.setFault('d', true);
        bench.setFault('w', true);
        bench.setFault('b', true);
        bench.setFault('m', true);
        bench.setHourRate(0, 30);
        bench.setPoise(20);
        for (int[] pair : due) {
            Due.is("22: without faults else, just " + pair[0], bench.explains(pair[0]), pair[1]);
        }
        Due.is("22: not as it is", bench.explains(bench.rate()), 0);
        Due.is("22: not all at once", bench.explains(-47), 0);
    }

    private static void explainsWithoutForce() {
        HorologeBench bench = new HorologeBench();
        Due.is("22: none, or dirty, as no force is not less", bench.explains(-12), 10);
        Due.is("22: not three less", bench.explains(-15), 0);
        HorologeBench one = Watches.withMinutes(1);
        Due.is("22: of a force of 1", one.explains(-9), 8);
        Due.is("22: which dirt takes", one.explains(-12), 2);
    }

    private static void explainsExtremes() {
        HorologeBench bench = Watches.busy();
        for (int far : new int[] {Integer.MIN_VALUE, Integer.MIN_VALUE + 30, Integer.MAX_VALUE,
            Integer.MAX_VALUE - 300}) {
            Due.is("22: far away " + far, bench.explains(far), 0);
        }
        HorologeBench fast = Watches.wound(8);
        fast.setPosition(60);
        fast.setWarmth(0);
        Due.is("22: the greatest rate", fast.explains(115), 8);
        Due.is("22: the greatest, bent", fast.explains(415), 4);
        HorologeBench slow = new HorologeBench();
        slow.setPosition(-60);
        slow.setWarmth(40);
        Due.is("22: the least, worn", slow.explains(-142), 1);
    }
}
