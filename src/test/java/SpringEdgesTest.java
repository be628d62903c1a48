/** Promises 34 to 42 at their edges: fusee, stopworks, reserves, hours, poise, swing and crown. */
public final class SpringEdgesTest {
    public static void main(String[] args) {
        fuseeWithTheBarrelOut();
        stopworksWithTheBarrelOut();
        reserveOfAWatchThatIsNotWhole();
        reserveIsWhatPasses();
        reserveLooksAtNoCrownAndNoShock();
        untilForceJustBelow();
        untilForceIsWhatPasses();
        untilForceToTheEnd();
        untilForceNumbers();
        hoursAndTheirRates();
        hourTwoNumbers();
        errorsOfPoise();
        swingByForce();
        swingOfOneThatStands();
        placesOfTheCrown();
        crownWantsAllParts();
        crownStays();
        crownTwoExceptions();
        stopsFirstByForce();
        stopsFirstWithAFusee();
        stopsFirstWantsAllParts();
        Due.end();
    }

    private static void fuseeWithTheBarrelOut() {
        for (boolean isThere : new boolean[] {true, false}) {
            Refused.unsupported("34: the barrel is in, " + isThere, Watches::busy, it -> it.setFusee(isThere));
            Refused.unsupported("34: the barrel is in alone, " + isThere, () -> {
                HorologeBench bench = new HorologeBench();
                bench.putIn(1);
                return bench;
            }, it -> it.setFusee(isThere));
            HorologeBench bench = Watches.busyWithout(1);
            Due.isFalse("34: it is out, " + isThere, bench.setFusee(isThere));
            Due.is("34: the fusee is told, " + isThere, bench.setFusee(true) ? 1 : 0, isThere ? 1 : 0);
        }
    }

    private static void stopworksWithTheBarrelOut() {
        for (boolean isThere : new boolean[] {true, false}) {
            Refused.unsupported("35: the barrel is in, " + isThere, Watches::wholeWithGears,
                    it -> it.setStopworks(isThere));
            Refused.unsupported("35: the barrel is in, with stopworks, " + isThere, Watches::busy,
                    it -> it.setStopworks(isThere));
            HorologeBench bench = Watches.busyWithout(1);
            Due.isTrue("35: it is out, " + isThere, bench.setStopworks(isThere));
            Due.is("35: the stopworks are told, " + isThere, bench.setStopworks(true) ? 1 : 0, isThere ? 1 : 0);
        }
    }

    private static void reserveOfAWatchThatIsNotWhole() {
        Due.is("36: with the plate alone", new HorologeBench().reserve(), 0);
        for (int part : new int[] {1, 7, 9}) {
            Due.is("36: without part " + part, Watches.busyWithout(part).reserve(), 0);
        }
        Due.is("36: whole without any minutes", Watches.whole().reserve(), 0);
        Due.is("36: of one minute", Watches.withMinutes(1).reserve(), 1);
        Due.is("36: of a full one", Watches.withMinutes(2880).reserve(), 2880);
    }

    private static void reserveIsWhatPasses() {
        for (char kind : "lcd".toCharArray()) {
            for (int how = 0; how < 8; how++) {
                reserveOf(kind, (how & 1) == 1, (how & 2) == 2, (how & 4) == 4);
            }
        }
    }

    private static void reserveOf(char kind, boolean hasFusee, boolean hasStopworks, boolean isDirty) {
        for (int turns = 0; turns <= 8; turns++) {
            HorologeBench bench = Watches.made(hasFusee, hasStopworks, kind);
            bench.setFault('d', isDirty);
            int minutes = turns == 0 ? 0 : bench.wind(turns);
            String what = "36: " + kind + " fusee " + hasFusee + " stopworks " + hasStopworks + " dirty " + isDirty
                    + " minutes " + minutes;
            int reserve = bench.reserve();
            Due.is(what, reserve, minutesThatPass(bench));
            Due.is(what + ", at its end", bench.reserve(), 0);
            Due.isExactly(what + ", what is left", bench.fullness(), (minutes - reserve) / 2880f);
        }
    }

    private static int minutesThatPass(HorologeBench bench) {
        float before = bench.fullness();
        bench.pass(2000);
        bench.pass(2000);
        return Math.round((before - bench.fullness()) * 2880);
    }

    private static void reserveLooksAtNoCrownAndNoShock() {
        HorologeBench bench = Watches.busy();
        int due = bench.reserve();
        Due.is("36: of the busy one, 720 at least", due, 1773 - 719);
        bench.shock();
        Due.is("36: after a shock", bench.reserve(), due);
        for (int place = 0; place <= 2; place++) {
            bench.crown(place);
            Due.is("36: with the crown in " + place, bench.reserve(), due);
        }
    }

    private static void untilForceJustBelow() {
        for (int force = 2; force <= 9; force++) {
            int least = 360 * (force - 1);
            Due.is("37: force " + force + ", less by a minute", Watches.withMinutes(least - 1).untilForce(force), 0);
            Due.is("37: force " + force + ", just", Watches.withMinutes(least).untilForce(force), 1);
            HorologeBench more = Watches.withMinutes(Math.min(2880, least + 360));
            Due.is("37: force " + force + ", with more", more.untilForce(force), force == 9 ? 1 : 361);
        }
        Due.is("37: force 1, without any", Watches.withMinutes(0).untilForce(1), 0);
        Due.is("37: force 1, of one", Watches.withMinutes(1).untilForce(1), 1);
        for (int force = 1; force <= 8; force++) {
            HorologeBench dirty = Watches.withMinutes(360 * force);
            dirty.setFault('d', true);
            Due.is("37: dirty, force " + force + ", just", dirty.untilForce(force), 1);
            dirty.pass(1);
            Due.is("37: dirty, force " + force + ", less", dirty.untilForce(force), 0);
        }
        HorologeBench full = Watches.wound(8);
        full.setFault('d', true);
        Due.is("37: a dirty one has no 9", full.untilForce(9), 0);
    }

    private static void untilForceIsWhatPasses() {
        for (int force = 2; force <= 9; force++) {
            HorologeBench bench = Watches.wound(8);
            int minutes = bench.untilForce(force);
            if (minutes > 1) {
                passAll(bench, minutes - 1);
            }
            Due.isTrue("37: not yet below " + force, bench.force() >= force);
            bench.pass(1);
            Due.isTrue("37: below " + force, bench.force() < force);
        }
    }

    private static void passAll(HorologeBench bench, int minutes) {
        int left = minutes;
        while (left > 0) {
            int step = Math.min(left, 2000);
            bench.pass(step);
            left -= step;
        }
    }

    private static void untilForceToTheEnd() {
        for (int minutes : new int[] {1, 359, 360, 2880}) {
            HorologeBench bench = Watches.windTo(Watches.made(true, false, 'l'), minutes);
            for (int force = 1; force <= 5; force++) {
                Due.is("37: a fusee, force " + force, bench.untilForce(force), minutes);
            }
            Due.is("37: a fusee has no 6", bench.untilForce(6), 0);
            bench.setFault('d', true);
            Due.is("37: a dirty fusee has 4", bench.untilForce(4), minutes);
            Due.is("37: a dirty fusee has no 5", bench.untilForce(5), 0);
            Due.is("37: to the end with force 1", Watches.withMinutes(minutes).untilForce(1), minutes);
        }
        Due.is("37: a fusee without any", Watches.made(true, false, 'l').untilForce(1), 0);
    }

    private static void untilForceNumbers() {
        Refused.outside("37: force", 1, 9, Watches::busy, HorologeBench::untilForce);
        Refused.outside("37: force, with the plate alone", 1, 9, HorologeBench::new, HorologeBench::untilForce);
        Due.is("37: the least force, with the plate alone", new HorologeBench().untilForce(1), 0);
        Due.is("37: the greatest force, with the plate alone", new HorologeBench().untilForce(9), 0);
    }

    private static void hoursAndTheirRates() {
        for (int hour : new int[] {0, 1, 22, 23}) {
            HorologeBench bench = new HorologeBench();
            Due.is("38: at first, hour " + hour, bench.setHourRate(hour, 30), 0);
            Due.is("38: the greatest, hour " + hour, bench.setHourRate(hour, -30), 30);
            Due.is("38: the least, hour " + hour, bench.setHourRate(hour, 0), -30);
            for (int rate : new int[] {-31, 31, Integer.MIN_VALUE, Integer.MAX_VALUE}) {
                Refused.argument("38: rate " + rate + " of hour " + hour, Watches::busy,
                        it -> it.setHourRate(hour, rate));
            }
        }
        HorologeBench bench = new HorologeBench();
        bench.setHourRate(7, 7);
        Due.is("38: of this hour alone, 6", bench.setHourRate(6, 0), 0);
        Due.is("38: of this hour alone, 8", bench.setHourRate(8, 0), 0);
        Refused.outside("38: hour", 0, 23, Watches::busy, (it, hour) -> it.setHourRate(hour, 1));
    }

    private static void hourTwoNumbers() {
        Refused.argument("38: both below", Watches::busy, it -> it.setHourRate(-1, -31));
        Refused.argument("38: both above", Watches::busy, it -> it.setHourRate(24, 31));
    }

    private static void errorsOfPoise() {
        HorologeBench bench = new HorologeBench();
        Due.is("39: at first", bench.setPoise(20), 0);
        Due.is("39: the greatest", bench.setPoise(-20), 20);
        Due.is("39: the least", bench.setPoise(0), -20);
        Refused.outside("39: error", -20, 20, Watches::busy, HorologeBench::setPoise);
    }

    private static void swingByForce() {
        for (int force = 1; force <= 9; force++) {
            HorologeBench bench = Watches.withMinutes(Math.max(1, 360 * (force - 1)));
            Due.is("40: with the force " + force, bench.swing(), 160 + 20 * force);
        }
        HorologeBench dirty = Watches.withMinutes(360);
        dirty.setFault('d', true);
        Due.is("40: dirty", dirty.swing(), 180);
    }

    private static void swingOfOneThatStands() {
        Due.is("40: with the plate alone", new HorologeBench().swing(), 0);
        Due.is("40: unwound", Watches.whole().swing(), 0);
        Due.is("40: without hands", Watches.busyWithout(9).swing(), 0);
        Due.is("40: held by the crown", Watches.busyWithCrown(2).swing(), 0);
        HorologeBench shocked = Watches.busy();
        Due.is("40: ahead of a shock", shocked.swing(), 260);
        shocked.shock();
        Due.is("40: after a shock", shocked.swing(), 0);
        HorologeBench cylinder = Watches.windTo(Watches.made(false, false, 'c'), 359);
        Due.is("40: with too small a force", cylinder.swing(), 0);
    }

    private static void placesOfTheCrown() {
        for (int before = -1; before <= 2; before++) {
            for (int place = -1; place <= 2; place++) {
                HorologeBench bench = Watches.busyWithCrown(before);
                Due.is("41: " + before + " before " + place, bench.crown(place), before);
                Due.is("41: " + place + " stands", bench.crown(-1), place);
            }
            int any = before;
            Refused.outside("41: place, from " + before, -1, 2, () -> Watches.busyWithCrown(any),
                    HorologeBench::crown);
        }
    }

    private static void crownWantsAllParts() {
        for (int place = -1; place <= 2; place++) {
            int any = place;
            for (int part : new int[] {1, 7, 9}) {
                Refused.state("41: " + place + " without part " + part, () -> Watches.busyWithout(part),
                        it -> it.crown(any));
            }
            Refused.state("41: " + place + " with the plate alone", HorologeBench::new, it -> it.crown(any));
            Due.is("41: unwound, " + place, Watches.whole().crown(place), -1);
        }
    }

    private static void crownStays() {
        HorologeBench bench = Watches.busyWithCrown(2);
        bench.takeOut(9);
        bench.putIn(9);
        Due.is("41: it stays as parts are taken out", bench.crown(0), 2);
        Refused.state("41: it still sets the hands", () -> {
            HorologeBench again = Watches.busyWithCrown(2);
            again.takeOut(9);
            again.putIn(9);
            return again;
        }, it -> it.wind(1));
    }

    private static void crownTwoExceptions() {
        Refused.argument("41: -2, not whole", HorologeBench::new, it -> it.crown(-2));
        Refused.argument("41: 3, not whole", () -> Watches.busyWithout(9), it -> it.crown(3));
    }

    private static void stopsFirstByForce() {
        // The minutes, and what stops first of a clean watch and of a dirty one.
        stopsFirstOf('l', new int[][] {{0, 15, 15}, {1, 3, 15}, {359, 3, 15}, {360, 2, 3}, {719, 2, 3},
            {720, 2, 2}, {1079, 2, 2}, {1080, 2, 2}, {2879, 2, 2}, {2880, 2, 2}});
        stopsFirstOf('c', new int[][] {{0, 15, 15}, {359, 11, 15}, {360, 2, 11}, {719, 2, 11}, {720, 2, 2},
            {1079, 2, 2}, {1080, 2, 2}, {2880, 2, 2}});
        stopsFirstOf('d', new int[][] {{0, 15, 15}, {360, 10, 11}, {719, 10, 11}, {720, 10, 10}, {1079, 10, 10},
            {1080, 10, 10}, {2880, 10, 10}});
    }

    private static void stopsFirstOf(char kind, int[][] due) {
        for (int[] row : due) {
            HorologeBench bench = Watches.windTo(Watches.made(false, false, kind), row[0]);
            Due.isExactly("42: the minutes of " + kind, bench.fullness(), row[0] / 2880f);
            Due.is("42: " + kind + " with minutes " + row[0], bench.stopsFirst(), row[1]);
            bench.setFault('d', true);
            Due.is("42: a dirty " + kind + " with minutes " + row[0], bench.stopsFirst(), row[2]);
        }
    }

    private static void stopsFirstWithAFusee() {
        for (char kind : "lcd".toCharArray()) {
            for (int minutes : new int[] {0, 1, 360, 2880}) {
                HorologeBench bench = Watches.windTo(Watches.made(true, false, kind), minutes);
                Due.is("42: a fusee with " + kind + " and minutes " + minutes, bench.stopsFirst(), 15);
                bench.setFault('d', true);
                Due.is("42: a dirty fusee with " + kind + " and minutes " + minutes, bench.stopsFirst(), 15);
            }
        }
    }

    private static void stopsFirstWantsAllParts() {
        for (int part : new int[] {1, 7, 9}) {
            Refused.state("42: without part " + part, () -> Watches.busyWithout(part), HorologeBench::stopsFirst);
        }
        Refused.state("42: with the plate alone", HorologeBench::new, HorologeBench::stopsFirst);
    }
}
