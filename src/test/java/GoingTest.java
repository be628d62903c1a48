/** Promises 13 to 22: winding, going, rates and faults. */
public final class GoingTest {
    private static final int[] FAR = {Integer.MIN_VALUE, Integer.MAX_VALUE};

    public static void main(String[] args) {
        wind();
        force();
        goes();
        shock();
        setPosition();
        setWarmth();
        setFault();
        rate();
        pass();
        explains();
        Due.end();
    }

    private static void wind() {
        HorologeBench bench = Watches.whole();
        Due.is("13: one turn", bench.wind(1), 360);
        Due.is("13: three more", bench.wind(3), 1440);
        Due.is("13: what would be more is lost", bench.wind(8), 2880);
        bench.pass(100);
        Due.is("13: a part of a turn is lost", bench.wind(1), 2880);
        HorologeBench stopped = new HorologeBench();
        stopped.setStopworks(true);
        Watches.complete(stopped);
        Due.is("13: stopworks end at 2520", stopped.wind(8), 2520);
        Due.is("13: and stay there", stopped.wind(1), 2520);
        int[] wrong = {0, -1, 9, FAR[0], FAR[1]};
        for (int turns : wrong) {
            Due.throwing("13: turns " + turns, IllegalArgumentException.class, () -> bench.wind(turns));
        }
        HorologeBench bare = new HorologeBench();
        Due.throwing("13: not whole", IllegalStateException.class, () -> bare.wind(1));
        Due.throwing("13: the number first", IllegalArgumentException.class, () -> bare.wind(9));
        bench.crown(1);
        Due.throwing("13: the crown sets the date", IllegalStateException.class, () -> bench.wind(1));
        bench.crown(2);
        Due.throwing("13: the crown sets the hands", IllegalStateException.class, () -> bench.wind(1));
        bench.crown(0);
        Due.is("13: the crown winds", bench.wind(1), 2880);
    }

    private static void force() {
        HorologeBench bench = Watches.whole();
        Due.is("14: none", bench.force(), 0);
        bench.setFault('d', true);
        Due.is("14: none is not less if dirty", bench.force(), 0);
        bench.setFault('d', false);
        for (int turns = 1; turns <= 8; turns++) {
            bench.wind(1);
            Due.is("14: after turn " + turns, bench.force(), turns + 1);
        }
        bench.pass(1);
        Due.is("14: rounded down", bench.force(), 8);
        bench.setFault('d', true);
        Due.is("14: dirty", bench.force(), 7);
        HorologeBench low = Watches.wound(1);
        low.pass(1);
        Due.is("14: at 359", low.force(), 1);
        low.setFault('d', true);
        Due.is("14: at 359, dirty", low.force(), 0);
        HorologeBench fusee = new HorologeBench();
        fusee.setFusee(true);
        Watches.complete(fusee);
        Due.is("14: a fusee without any", fusee.force(), 0);
        fusee.wind(1);
        Due.is("14: a fusee", fusee.force(), 5);
        fusee.wind(8);
        Due.is("14: a fusee wound full", fusee.force(), 5);
        fusee.setFault('d', true);
        Due.is("14: a dirty fusee", fusee.force(), 4);
    }

    private static void goes() {
        HorologeBench bench = Watches.whole();
        Due.isFalse("15: unwound", bench.goes());
        bench.wind(1);
        Due.isTrue("15: wound", bench.goes());
        bench.crown(2);
        Due.isFalse("15: the crown sets the hands", bench.goes());
        bench.crown(1);
        Due.isTrue("15: the crown sets the date", bench.goes());
        bench.pass(360);
        Due.isFalse("15: run down", bench.goes());
        HorologeBench cylinder = Watches.withEscapement('c', 1);
        Due.isTrue("15: a cylinder with 2", cylinder.goes());
        cylinder.pass(1);
        Due.isFalse("15: a cylinder with 1", cylinder.goes());
        HorologeBench detent = Watches.withEscapement('d', 2);
        Due.isTrue("15: a detent with 3", detent.goes());
        detent.pass(1);
        Due.isFalse("15: a detent with 2", detent.goes());
        HorologeBench stopworks = new HorologeBench();
        stopworks.setStopworks(true);
        Watches.complete(stopworks).wind(1);
        Due.isTrue("15: stopworks with 360", stopworks.goes());
        stopworks.pass(1);
        Due.isFalse("15: stopworks with 359", stopworks.goes());
        HorologeBench dirty = Watches.wound(1);
        dirty.setFault('d', true);
        Due.isTrue("15: dirty with 360", dirty.goes());
        dirty.pass(1);
        Due.isFalse("15: dirty with 359", dirty.goes());
        dirty.setFault('d', false);
        Due.isTrue("15: cleaned", dirty.goes());
        dirty.takeOut(7);
        Due.isFalse("15: not whole", dirty.goes());
    }

    private static void shock() {
        HorologeBench lever = Watches.wound(8);
        Due.isTrue("16: a lever goes on", lever.shock());
        HorologeBench cylinder = Watches.withEscapement('c', 8);
        Due.isTrue("16: a cylinder goes on", cylinder.shock());
        HorologeBench detent = Watches.withEscapement('d', 3);
        Due.isFalse("16: a detent stops", detent.shock());
        Due.isFalse("16: and stands", detent.goes());
        Due.is("16: no minute passes for it", detent.pass(10), 0);
        detent.wind(1);
        Due.isTrue("16: until it is wound", detent.goes());
        detent.shock();
        detent.takeOut(7);
        detent.takeOut(6);
        detent.takeOut(5);
        detent.setEscapement('l');
        Watches.complete(detent).wind(1);
        Due.isTrue("16: or has another escapement", detent.shock());
        Due.isFalse("16: on the bare bench", new HorologeBench().shock());
    }

    private static void setPosition() {
        HorologeBench bench = new HorologeBench();
        Due.is("17: 0 at first", bench.setPosition(60), 0);
        Due.is("17: before", bench.setPosition(-60), 60);
        Due.is("17: the rate follows", bench.rate(), -72);
        int[] wrong = {61, -61, FAR[0], FAR[1]};
        for (int rate : wrong) {
            Due.throwing("17: rate " + rate, IllegalArgumentException.class, () -> bench.setPosition(rate));
        }
        Due.is("17: nothing has changed", bench.setPosition(1), -60);
    }

    private static void setWarmth() {
        HorologeBench bench = new HorologeBench();
        Due.is("18: 20 at first", bench.setWarmth(40), 20);
        Due.is("18: 20 above", bench.rate(), -12 - 40);
        Due.is("18: before", bench.setWarmth(0), 40);
        Due.is("18: 20 below", bench.rate(), -12 + 40);
        int[] wrong = {-1, 41, FAR[0], FAR[1]};
        for (int degrees : wrong) {
            Due.throwing("18: degrees " + degrees, IllegalArgumentException.class,
                    () -> bench.setWarmth(degrees));
        }
        Due.is("18: nothing has changed", bench.setWarmth(20), 0);
    }

    private static void setFault() {
        HorologeBench bench = new HorologeBench();
        for (char fault : "wdbm".toCharArray()) {
            Due.isFalse("19: none at first " + fault, bench.setFault(fault, false));
            Due.isFalse("19: still none " + fault, bench.setFault(fault, true));
            Due.isTrue("19: it has it " + fault, bench.setFault(fault, true));
            Due.isTrue("19: it had it " + fault, bench.setFault(fault, false));
            Due.isFalse("19: no longer " + fault, bench.setFault(fault, false));
        }
        Due.throwing("19: no such fault", IllegalArgumentException.class, () -> bench.setFault('x', true));
        Due.throwing("19: a great letter", IllegalArgumentException.class, () -> bench.setFault('W', false));
    }

    private static void rate() {
        HorologeBench bench = Watches.whole();
        Due.is("20: without force", bench.rate(), -12);
        bench.setPoise(7);
        Due.is("20: a small swing adds the error of poise", bench.rate(), -5);
        bench.wind(2);
        Due.is("20: at a swing of 220 it is nothing", bench.rate(), -3);
        bench.wind(1);
        Due.is("20: a great swing takes it off", bench.rate(), -7);
        bench.setPoise(0);
        bench.setHourRate(0, 30);
        Due.is("20: the hour", bench.rate(), 30);
        bench.setHands(60);
        Due.is("20: another hour", bench.rate(), 0);
        bench.setHourRate(13, -4);
        bench.setHands(720);
        Due.is("20: an hour of the afternoon", bench.rate(), -4);
        bench.setFault('w', true);
        Due.is("20: worn", bench.rate(), -34);
        bench.setFault('d', true);
        Due.is("20: dirty", bench.rate(), -37);
        bench.setFault('b', true);
        bench.setFault('m', true);
        Due.is("20: bent and mispinned ones do nothing", bench.rate(), -37);
        HorologeBench standing = Watches.wound(8);
        standing.setPoise(9);
        standing.crown(2);
        Due.is("20: the swing of its force, if it stands too", standing.rate(), 15 - 9);
    }

    private static void pass() {
        HorologeBench bench = Watches.whole();
        Due.is("21: it does not go", bench.pass(5), 0);
        bench.wind(3);
        Due.is("21: a rate of 0", bench.pass(1), 60);
        bench.setPosition(60);
        Due.is("21: the rest of 57 grows", bench.pass(25), 1500);
        Due.is("21: and gives a second", bench.pass(1), 61);
        HorologeBench even = new HorologeBench();
        even.setFusee(true);
        Watches.complete(even).wind(8);
        even.setPosition(57);
        Due.is("21: at 60, 24 minutes give a second", even.pass(23), 23 * 60);
        Due.is("21: a whole one at once", even.pass(1), 61);
        Due.is("21: nothing is left", even.pass(23), 23 * 60);
        even.setPosition(-57);
        Due.is("21: at -54, the rest of 1380 is lost first", even.pass(25), 25 * 60);
        Due.is("21: rounded down", even.pass(1), 59);
        HorologeBench slow = Watches.wound(2);
        Due.is("21: a rate less than 0 loses at once", slow.pass(1), 59);
        HorologeBench running = Watches.wound(1);
        running.setPosition(12);
        Due.is("21: it stops as the spring ends", running.pass(2000), 360 * 60 + 3 * 360 / 1440);
        Due.is("21: and has no more", running.pass(1), 0);
        HorologeBench hours = Watches.wound(3);
        Watches.moveTo(hours, 59);
        hours.setHourRate(1, -1);
        Due.is("21: the rate as it is then", hours.pass(1), 60);
        Due.is("21: and in the next hour", hours.pass(1), 59);
        int[] wrong = {0, -1, 2001, FAR[0], FAR[1]};
        for (int minutes : wrong) {
            Due.throwing("21: minutes " + minutes, IllegalArgumentException.class, () -> bench.pass(minutes));
        }
        Due.is("21: the most", Watches.wound(8).pass(2000) / 60, 2000);
        HorologeBench held = Watches.wound(8);
        held.crown(2);
        Due.is("21: the crown holds it", held.pass(60), 0);
        Due.is("21: its spring waits", held.reserve(), 2880);
    }

    private static void explains() {
        HorologeBench bench = new HorologeBench();
        Due.is("22: none, or dirty without force", bench.explains(-12), 10);
        Due.is("22: worn", bench.explains(-42), 1);
        Due.is("22: bent", bench.explains(288), 4);
        Due.is("22: nothing", bench.explains(0), 0);
        HorologeBench whole = Watches.wound(4);
        Due.is("22: none", whole.explains(3), 8);
        Due.is("22: dirty", whole.explains(0), 2);
        Due.is("22: worn ones lose", whole.explains(-27), 1);
        Due.is("22: bent ones gain", whole.explains(303), 4);
        whole.setHourRate(0, 10);
        whole.setPoise(10);
        Due.is("22: no hours and no poise", whole.explains(3), 8);
        whole.setFault('d', true);
        whole.setFault('w', true);
        whole.setFault('m', true);
        Due.is("22: without faults else", whole.explains(3), 8);
        Due.is("22: each alone", whole.explains(0), 2);
        Due.is("22: worn alone", whole.explains(-27), 1);
        whole.setPosition(20);
        whole.setWarmth(30);
        Due.is("22: by position and warmth", whole.explains(3), 8);
        whole.setWarmth(15);
        Due.is("22: by warmth below 20", whole.explains(33), 8);
        Due.is("22: far away", bench.explains(FAR[0]) + bench.explains(FAR[1]), 0);
    }
}
