/** Promises 32, 33, 63 and 64 at their edges: the chronograph, its pushers, kinds and counters. */
public final class PusherEdgesTest {
    public static void main(String[] args) {
        pushers();
        pushersWantAllParts();
        pushersTwoExceptions();
        atNothing();
        runningFromNothing();
        camBarsFlyingBack();
        camAllowsTheRest();
        columnWheelFliesBack();
        splitStands();
        splitJoins();
        nothingJoins();
        countsOnlyGoing();
        countsWhatIsGained();
        kinds();
        countersRound();
        countersOfSeconds();
        countersOfTheFirstHand();
        Due.end();
    }

    /** A watch that gains nothing, of 2160 minutes. */
    private static HorologeBench made(char kind) {
        HorologeBench bench = new HorologeBench();
        bench.setChronograph(kind);
        bench.setFusee(true);
        Watches.complete(bench).wind(8);
        bench.setPosition(-3);
        return bench;
    }

    private static HorologeBench running(char kind, int minutes) {
        HorologeBench bench = made(kind);
        bench.push('a');
        bench.pass(minutes);
        return bench;
    }

    private static void pushers() {
        Due.is("32: a", made('w').push('a'), 0);
        Due.is("32: b", made('w').push('b'), 0);
        Due.is("32: s", made('w').push('s'), 0);
        Refused.letters("32: pusher", "abs", Watches::busy, HorologeBench::push);
    }

    private static void pushersWantAllParts() {
        for (char pusher : "abs".toCharArray()) {
            for (int part : new int[] {1, 7, 9}) {
                Refused.state("32: " + pusher + " without part " + part, () -> Watches.busyWithout(part),
                        it -> it.push(pusher));
            }
            Refused.state("32: " + pusher + " with the plate alone", HorologeBench::new, it -> it.push(pusher));
            Due.is("32: unwound, " + pusher, Watches.whole().push(pusher), 0);
        }
    }

    private static HorologeBench withCamTakenApart() {
        HorologeBench bench = running('c', 5);
        bench.takeOut(9);
        return bench;
    }

    private static void pushersTwoExceptions() {
        Refused.argument("32: the pusher ahead of the parts", HorologeBench::new, it -> it.push('c'));
        Refused.state("32: the parts ahead of the cam", PusherEdgesTest::withCamTakenApart, it -> it.push('b'));
        Refused.argument("32: the pusher ahead of both", PusherEdgesTest::withCamTakenApart, it -> it.push('B'));
    }

    private static void atNothing() {
        HorologeBench bench = made('c');
        Due.is("32: to 0 at 0", bench.push('b'), 0);
        bench.pass(3);
        Due.is("33: it does not run", bench.chronograph(false), 0);
        Due.is("33: nor does the other hand", bench.chronograph(true), 0);
        Due.is("32: it runs", bench.push('a'), 0);
        Due.is("32: and stops at once", bench.push('a'), 0);
        bench.pass(3);
        Due.is("33: it stands", bench.chronograph(false), 0);
        Due.is("32: a cam at 0, as it stands", bench.push('b'), 0);
    }

    private static void runningFromNothing() {
        HorologeBench bench = made('w');
        bench.push('a');
        Due.is("33: at 0 as it begins", bench.chronograph(false), 0);
        bench.pass(1);
        Due.is("33: a minute", bench.chronograph(false), 60);
        Due.is("32: stops at what it shows", bench.push('a'), 60);
        bench.pass(1);
        Due.is("33: stands at it", bench.chronograph(false), 60);
        Due.is("32: goes on from it", bench.push('a'), 60);
        bench.pass(1);
        Due.is("33: two minutes", bench.chronograph(false), 120);
    }

    private static void camBarsFlyingBack() {
        Refused.unsupported("32: a cam, running", () -> running('c', 7), it -> it.push('b'));
        Refused.unsupported("32: a cam, running and split", () -> {
            HorologeBench bench = running('c', 7);
            bench.push('s');
            bench.pass(1);
            return bench;
        }, it -> it.push('b'));
        Refused.unsupported("32: a cam, running at 0 without a minute", () -> {
            HorologeBench bench = made('c');
            bench.push('a');
            return bench;
        }, it -> it.push('b'));
        Refused.unsupported("32: a cam, running in a watch that does not go", () -> {
            HorologeBench bench = running('c', 7);
            bench.crown(2);
            return bench;
        }, it -> it.push('b'));
    }

    private static void camAllowsTheRest() {
        HorologeBench bench = running('c', 7);
        Due.is("32: a cam stops", bench.push('a'), 420);
        Due.is("32: a cam that stands goes to 0", bench.push('b'), 0);
        Due.is("32: a cam runs", bench.push('a'), 0);
        bench.pass(1);
        Due.is("32: a cam splits", bench.push('s'), 60);
    }

    private static void columnWheelFliesBack() {
        HorologeBench bench = running('w', 7);
        Due.is("32: flies back", bench.push('b'), 0);
        Due.is("33: both hands", bench.chronograph(true), 0);
        bench.pass(1);
        Due.is("33: and begins anew", bench.chronograph(false), 60);
        bench.push('a');
        Due.is("32: to 0 as it stands", bench.push('b'), 0);
        bench.pass(1);
        Due.is("33: and stands", bench.chronograph(false), 0);
    }

    private static void splitStands() {
        HorologeBench bench = running('w', 2);
        Due.is("32: split", bench.push('s'), 120);
        Due.is("33: it shows what it showed", bench.chronograph(true), 120);
        bench.pass(1);
        Due.is("33: it stands", bench.chronograph(true), 120);
        Due.is("33: the first one goes on", bench.chronograph(false), 180);
        HorologeBench atNothing = made('w');
        atNothing.push('s');
        atNothing.push('a');
        atNothing.pass(4);
        Due.is("33: split at 0", atNothing.chronograph(true), 0);
        Due.is("33: the first one runs from 0", atNothing.chronograph(false), 240);
    }

    private static void splitJoins() {
        HorologeBench bench = running('w', 2);
        bench.push('s');
        bench.pass(3);
        Due.is("32: it joins again", bench.push('s'), 300);
        Due.is("33: it shows the same", bench.chronograph(true), 300);
        bench.pass(1);
        Due.is("33: and goes along", bench.chronograph(true), 360);
        bench.push('s');
        bench.push('b');
        bench.pass(1);
        Due.is("33: flying back joins", bench.chronograph(true), 60);
        bench.push('s');
        bench.pass(1);
        bench.push('a');
        bench.push('b');
        bench.push('a');
        bench.pass(2);
        Due.is("33: bringing to 0 joins", bench.chronograph(true), 120);
        bench.push('s');
        bench.pass(1);
        Due.is("33: and the next push splits", bench.chronograph(true), 120);
    }

    private static void nothingJoins() {
        HorologeBench bench = running('w', 2);
        bench.push('s');
        bench.pass(1);
        bench.push('a');
        Due.is("33: stopping does not join", bench.chronograph(true), 120);
        bench.push('a');
        bench.pass(1);
        Due.is("33: running does not join", bench.chronograph(true), 120);
        bench.takeOut(9);
        Due.is("33: taking out does not join", bench.chronograph(true), 120);
        Due.is("33: nor bring to 0", bench.chronograph(false), 240);
    }

    private static void countsOnlyGoing() {
        HorologeBench bench = running('w', 2);
        bench.setHands(700);
        bench.setHands(-30);
        Due.is("33: not as the hands are turned", bench.chronograph(false), 120);
        bench.crown(2);
        bench.pass(50);
        Due.is("33: not as it stands", bench.chronograph(false), 120);
        HorologeBench ending = Watches.withMinutes(3);
        ending.push('a');
        int seconds = ending.pass(2000);
        Due.is("33: to the end of the spring", ending.chronograph(false), seconds);
    }

    private static void countsWhatIsGained() {
        HorologeBench fast = made('w');
        fast.setPosition(57);
        fast.push('a');
        fast.pass(23);
        Due.is("33: not yet a second more", fast.chronograph(false), 23 * 60);
        fast.pass(1);
        Due.is("33: a second more", fast.chronograph(false), 24 * 60 + 1);
        HorologeBench slow = made('w');
        slow.setPosition(-4);
        slow.push('a');
        slow.pass(1);
        Due.is("33: a second less", slow.chronograph(false), 59);
        Due.is("64: which is no minute", slow.counter('m'), 0);
    }

    private static void kinds() {
        for (char before : "wc".toCharArray()) {
            for (char kind : "wc".toCharArray()) {
                HorologeBench bench = new HorologeBench();
                bench.setChronograph(before);
                Due.isChar("63: " + before + " before " + kind, bench.setChronograph(kind), before);
                Due.isChar("63: " + kind + " is chosen", bench.setChronograph('w'), kind);
            }
            Refused.unsupported("63: the motion work is in, " + before, () -> Watches.busyWithout(9),
                    it -> it.setChronograph(before));
            Due.isChar("63: it is out, " + before, Watches.busyWithout(9, 8).setChronograph(before), 'w');
        }
        Refused.letters("63: kind", "wc", () -> Watches.busyWithout(9, 8), HorologeBench::setChronograph);
        Refused.letters("63: kind, with the motion work in", "wc", Watches::busy, HorologeBench::setChronograph);
    }

    private static void countersRound() {
        int[][] due = {{1, 1, 0}, {29, 29, 0}, {30, 0, 0}, {31, 1, 0}, {59, 29, 0}, {60, 0, 1}, {89, 29, 1},
            {90, 0, 1}, {659, 29, 10}, {660, 0, 11}, {719, 29, 11}, {720, 0, 0}, {721, 1, 0}, {780, 0, 1},
            {1439, 29, 11}, {1440, 0, 0}};
        for (int[] minutes : due) {
            HorologeBench bench = running('w', minutes[0]);
            Due.is("64: the minutes of " + minutes[0], bench.counter('m'), minutes[1]);
            Due.is("64: the hours of " + minutes[0], bench.counter('h'), minutes[2]);
            Due.is("33: the seconds of " + minutes[0], bench.chronograph(false), 60 * minutes[0]);
        }
        Refused.letters("64: counter", "mh", Watches::busy, HorologeBench::counter);
    }

    private static void countersOfSeconds() {
        HorologeBench slow = made('w');
        slow.setPosition(-4);
        slow.push('a');
        slow.pass(1);
        slow.setPosition(-3);
        slow.pass(29);
        Due.is("64: a second less than 30 minutes", slow.counter('m'), 29);
        slow.pass(30);
        Due.is("64: a second less than an hour", slow.counter('h'), 0);
        slow.pass(660);
        Due.is("64: a second less than 12 hours", slow.counter('h'), 11);
        slow.pass(1);
        Due.is("64: past 12 hours", slow.counter('h'), 0);
    }

    private static void countersOfTheFirstHand() {
        HorologeBench bench = running('w', 100);
        bench.push('s');
        bench.pass(25);
        Due.is("64: the minutes of the first hand", bench.counter('m'), 5);
        Due.is("64: the hours of the first hand", bench.counter('h'), 2);
        bench.push('b');
        Due.is("64: the minutes at 0", bench.counter('m'), 0);
        Due.is("64: the hours at 0", bench.counter('h'), 0);
    }
}
