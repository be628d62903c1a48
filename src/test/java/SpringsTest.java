/** Promises 34 to 42: springs, rates and crowns. */
public final class SpringsTest {
    private static final int[] FAR = {Integer.MIN_VALUE, Integer.MAX_VALUE};

    public static void main(String[] args) {
        setFusee();
        setStopworks();
        reserve();
        untilForce();
        setHourRate();
        setPoise();
        swing();
        crown();
        stopsFirst();
        Due.end();
    }

    private static HorologeBench made(boolean hasFusee, boolean hasStopworks, char escapement, int turns) {
        HorologeBench bench = new HorologeBench();
        bench.setFusee(hasFusee);
        bench.setStopworks(hasStopworks);
        bench.setEscapement(escapement);
        Watches.complete(bench);
        if (turns > 0) {
            bench.wind(turns);
        }
        return bench;
    }

    private static void setFusee() {
        HorologeBench bench = new HorologeBench();
        Due.isFalse("34: none at first", bench.setFusee(true));
        Due.isTrue("34: there before", bench.setFusee(false));
        Due.isFalse("34: not there before", bench.setFusee(true));
        Watches.complete(bench).wind(8);
        Due.is("34: its force", bench.force(), 5);
        Due.throwing("34: the barrel is in", UnsupportedOperationException.class, () -> bench.setFusee(false));
        bench.takeOut(1);
        Due.isTrue("34: the barrel is out", bench.setFusee(false));
        bench.putIn(1);
        bench.wind(8);
        Due.is("34: without it", bench.force(), 9);
    }

    private static void setStopworks() {
        HorologeBench bench = new HorologeBench();
        Due.isFalse("35: none at first", bench.setStopworks(true));
        Due.isTrue("35: there before", bench.setStopworks(true));
        Watches.complete(bench);
        Due.is("35: the end", bench.wind(8), 2520);
        Due.throwing("35: the barrel is in", UnsupportedOperationException.class,
                () -> bench.setStopworks(false));
        bench.takeOut(1);
        Due.isTrue("35: the barrel is out", bench.setStopworks(false));
        bench.putIn(1);
        Due.is("35: without them", bench.wind(8), 2880);
    }

    private static void reserve() {
        Due.is("36: not whole", new HorologeBench().reserve(), 0);
        Due.is("36: unwound", Watches.whole().reserve(), 0);
        Due.is("36: a lever", made(false, false, 'l', 8).reserve(), 2880);
        Due.is("36: a cylinder", made(false, false, 'c', 8).reserve(), 2880 - 359);
        Due.is("36: a detent", made(false, false, 'd', 8).reserve(), 2880 - 719);
        Due.is("36: a detent with too little", made(false, false, 'd', 1).reserve(), 0);
        Due.is("36: stopworks", made(false, true, 'l', 8).reserve(), 2520 - 359);
        Due.is("36: a fusee", made(true, false, 'd', 1).reserve(), 360);
        Due.is("36: a fusee with stopworks", made(true, true, 'd', 1).reserve(), 1);
        HorologeBench dirty = made(false, false, 'l', 1);
        dirty.setFault('d', true);
        Due.is("36: dirty", dirty.reserve(), 1);
        HorologeBench held = made(false, false, 'd', 8);
        held.shock();
        held.crown(2);
        Due.is("36: not looking at shocks and crowns", held.reserve(), 2161);
        HorologeBench going = made(false, false, 'c', 2);
        int reserve = going.reserve();
        going.pass(reserve);
        Due.is("36: so many minutes, and no more", going.pass(1), 0);
        going.takeOut(7);
        Due.is("36: no longer whole", going.reserve(), 0);
    }

    private static void untilForce() {
        HorologeBench bench = made(false, false, 'l', 8);
        for (int force = 1; force <= 9; force++) {
            int due = force == 1 ? 2880 : 2881 - 360 * (force - 1);
            Due.is("37: force " + force, bench.untilForce(force), due);
        }
        bench.setFault('d', true);
        Due.is("37: dirty, 9", bench.untilForce(9), 0);
        Due.is("37: dirty, 8", bench.untilForce(8), 1);
        Due.is("37: dirty, 1", bench.untilForce(1), 2521);
        HorologeBench fusee = made(true, true, 'd', 2);
        Due.is("37: a fusee to its end", fusee.untilForce(5), 720);
        Due.is("37: a fusee has no 6", fusee.untilForce(6), 0);
        fusee.setFault('d', true);
        Due.is("37: a dirty fusee has no 5", fusee.untilForce(5), 0);
        Due.is("37: a dirty fusee has 4", fusee.untilForce(4), 720);
        Due.is("37: unwound", Watches.whole().untilForce(1), 0);
        Due.is("37: not whole", new HorologeBench().untilForce(1), 0);
        int[] wrong = {0, -1, 10, FAR[0], FAR[1]};
        for (int force : wrong) {
            Due.throwing("37: force " + force, IllegalArgumentException.class, () -> bench.untilForce(force));
        }
    }

    private static void setHourRate() {
        HorologeBench bench = new HorologeBench();
        for (int hour = 0; hour <= 23; hour++) {
            Due.is("38: 0 at first " + hour, bench.setHourRate(hour, hour - 30), 0);
        }
        for (int hour = 0; hour <= 23; hour++) {
            Due.is("38: before " + hour, bench.setHourRate(hour, 30), hour - 30);
        }
        int[] wrongHours = {-1, 24, FAR[0], FAR[1]};
        for (int hour : wrongHours) {
            Due.throwing("38: hour " + hour, IllegalArgumentException.class, () -> bench.setHourRate(hour, 0));
        }
        int[] wrongRates = {-31, 31, FAR[0], FAR[1]};
        for (int rate : wrongRates) {
            Due.throwing("38: rate " + rate, IllegalArgumentException.class, () -> bench.setHourRate(0, rate));
        }
        Due.is("38: it counts", bench.rate(), 18);
    }

    private static void setPoise() {
        HorologeBench bench = new HorologeBench();
        Due.is("39: 0 at first", bench.setPoise(20), 0);
        Due.is("39: it counts", bench.rate(), 8);
        Due.is("39: before", bench.setPoise(-20), 20);
        int[] wrong = {-21, 21, FAR[0], FAR[1]};
        for (int error : wrong) {
            Due.throwing("39: error " + error, IllegalArgumentException.class, () -> bench.setPoise(error));
        }
        Due.is("39: nothing has changed", bench.setPoise(0), -20);
    }

    private static void swing() {
        Due.is("40: not whole", new HorologeBench().swing(), 0);
        HorologeBench bench = Watches.whole();
        Due.is("40: unwound", bench.swing(), 0);
        bench.wind(1);
        Due.is("40: a force of 2", bench.swing(), 200);
        bench.wind(8);
        Due.is("40: a force of 9", bench.swing(), 340);
        bench.crown(2);
        Due.is("40: held", bench.swing(), 0);
    }

    private static void crown() {
        HorologeBench bench = Watches.whole();
        Due.is("41: none at first", bench.crown(0), -1);
        Due.is("41: place 0 before", bench.crown(1), 0);
        Due.is("41: place 1 before", bench.crown(2), 1);
        Due.is("41: place 2 before", bench.crown(-1), 2);
        Due.is("41: taken off", bench.crown(2), -1);
        int[] wrong = {-2, 3, FAR[0], FAR[1]};
        for (int place : wrong) {
            Due.throwing("41: place " + place, IllegalArgumentException.class, () -> bench.crown(place));
        }
        HorologeBench bare = new HorologeBench();
        for (int place = -1; place <= 2; place++) {
            int any = place;
            Due.throwing("41: not whole " + place, IllegalStateException.class, () -> bare.crown(any));
        }
        Due.throwing("41: the place first", IllegalArgumentException.class, () -> bare.crown(3));
    }

    private static void stopsFirst() {
        Due.is("42: all have stopped", Watches.whole().stopsFirst(), 15);
        Due.is("42: the chronograph, from above", made(false, false, 'l', 8).stopsFirst(), 2);
        Due.is("42: the detent with it", made(false, false, 'd', 8).stopsFirst(), 10);
        Due.is("42: a force of 3", made(false, false, 'c', 2).stopsFirst(), 2);
        Due.is("42: a force of 2", made(false, false, 'c', 1).stopsFirst(), 2);
        Due.is("42: a force of 2, a detent", made(false, false, 'd', 1).stopsFirst(), 10);
        HorologeBench one = made(false, false, 'l', 1);
        one.pass(1);
        Due.is("42: a force of 1", one.stopsFirst(), 3);
        HorologeBench cylinder = made(false, false, 'c', 1);
        cylinder.pass(1);
        Due.is("42: a force of 1, a cylinder", cylinder.stopsFirst(), 11);
        HorologeBench fusee = made(true, true, 'l', 8);
        Due.is("42: a fusee keeps its force to the end", fusee.stopsFirst(), 15);
        fusee.setFault('d', true);
        Due.is("42: a dirty one too", fusee.stopsFirst(), 15);
        HorologeBench held = made(false, true, 'd', 2);
        held.shock();
        held.crown(2);
        Due.is("42: no crowns, shocks and stopworks", held.stopsFirst(), 10);
        held.setFault('d', true);
        Due.is("42: dirty, a force of 2", held.stopsFirst(), 10);
        Due.throwing("42: not whole", IllegalStateException.class, () -> new HorologeBench().stopsFirst());
    }
}
