import java.util.function.Supplier;

/** Promises 52 to 60 at their edges: arbors, what joins them, stars, and numbers that are too great. */
public final class ArborEdgesTest {
    private static final int GREATEST = 1000000000;
    private static final int WAYS = 3;

    public static void main(String[] args) {
        sixteenArbors();
        numbersOfArbors();
        numbersWithoutArbors();
        teethOfWheels();
        theFirstOneIsNotDriven();
        joinedAlready();
        itself();
        drivesTheOtherOne();
        drivesOverOthers();
        drivesByADifferential();
        whatOnlyDrivesCanBeDriven();
        countsOfDriven();
        asFromTheBeginning();
        looseOnesStand();
        loosenWhatIsNotDriven();
        joinedAnew();
        joinedAnewByOneOfTwo();
        numeratorJustGreatest();
        numeratorJustLeast();
        denominatorJustGreatest();
        numberOfOneThatFollows();
        differentialTooGreat();
        looseningTooGreat();
        turningTooGreat();
        refusedTurnsLeaveNothing();
        fractionOfTheFirstOne();
        numeratorByOneTooGreat();
        meshTwoExceptions();
        fastenTwoExceptions();
        differTwoExceptions();
        pointsOfStars();
        starsOfAllArbors();
        starTwoExceptions();
        starsComeRound();
        starsGoBack();
        starsAtWholeTurns();
        starsMovedByTurningAlone();
        turnsAndParts();
        turnTwoExceptions();
        partsOfFractions();
        arborsWithoutStars();
        Due.end();
    }

    private static HorologeBench withArbors(int count) {
        HorologeBench bench = new HorologeBench();
        for (int i = 0; i < count; i++) {
            bench.addArbor();
        }
        return bench;
    }

    private static void turned(String what, HorologeBench bench, int arbor, long above, long below) {
        Due.is(what + ", the numerator", bench.turnsOf(arbor, 'n'), above);
        Due.is(what + ", the denominator", bench.turnsOf(arbor, 'd'), below);
    }

    private static void sixteenArbors() {
        for (int count = 0; count < 16; count++) {
            Due.is("52: with " + count, withArbors(count).addArbor(), count);
        }
        Refused.state("52: there are 16", () -> withArbors(16), HorologeBench::addArbor);
        Refused.state("52: there are 16, all joined", ArborEdgesTest::chain, HorologeBench::addArbor);
        turned("52: the last one stands", withArbors(16), 15, 0, 1);
    }

    /** Sixteen arbors, each fast on the one ahead of it, with a star on each. */
    private static HorologeBench chain() {
        HorologeBench bench = withArbors(16);
        for (int arbor = 1; arbor < 16; arbor++) {
            bench.fasten(arbor - 1, arbor);
        }
        for (int arbor = 0; arbor < 16; arbor++) {
            bench.addStar(arbor, 4 + arbor);
        }
        bench.turn(7, 2);
        return bench;
    }

    private static void numbersOfArbors() {
        for (int count : new int[] {1, 5, 16}) {
            int last = count - 1;
            Supplier<HorologeBench> maker = () -> withArbors(count);
            Refused.noSuch("53: driver of " + count, 0, last, maker, (it, arbor) -> it.mesh(arbor, 6, 0, 6));
            Refused.noSuch("53: driven of " + count, 0, last, maker, (it, arbor) -> it.mesh(0, 6, arbor, 6));
            Refused.noSuch("54: driver of " + count, 0, last, maker, (it, arbor) -> it.fasten(arbor, 0));
            Refused.noSuch("54: driven of " + count, 0, last, maker, (it, arbor) -> it.fasten(0, arbor));
            Refused.noSuch("55: one of " + count, 0, last, maker, (it, arbor) -> it.differ(arbor, 0, 0));
            Refused.noSuch("55: other of " + count, 0, last, maker, (it, arbor) -> it.differ(0, arbor, 0));
            Refused.noSuch("55: driven of " + count, 0, last, maker, (it, arbor) -> it.differ(0, 0, arbor));
            Refused.noSuch("56: arbor of " + count, 0, last, maker, (it, arbor) -> it.loosen(arbor));
            Refused.noSuch("57: arbor of " + count, 0, last, maker, (it, arbor) -> it.addStar(arbor, 4));
            Refused.noSuch("59: arbor of " + count, 0, last, maker, (it, arbor) -> it.turnsOf(arbor, 'd'));
            Refused.noSuch("60: arbor of " + count, 0, last, maker, (it, arbor) -> it.star(arbor));
        }
        HorologeBench all = withArbors(16);
        Due.is("53: the last one is driven", all.mesh(0, 6, 15, 6), 1);
        Due.is("54: the last one drives", all.fasten(15, 14), 2);
        Due.is("55: the last two", all.differ(15, 14, 13), 3);
        Due.is("56: the last one is loosened", all.loosen(15), 2);
        Due.is("57: the last one has a star", all.addStar(15, 4), 1);
        Due.is("60: its star", all.star(15), 0);
    }

    private static void numbersWithoutArbors() {
        Refused.index("53: without arbors", HorologeBench::new, it -> it.mesh(0, 6, 0, 6));
        Refused.index("54: without arbors", HorologeBench::new, it -> it.fasten(0, 0));
        Refused.index("55: without arbors", HorologeBench::new, it -> it.differ(0, 0, 0));
        Refused.index("56: without arbors", HorologeBench::new, it -> it.loosen(0));
        Refused.index("57: without arbors", HorologeBench::new, it -> it.addStar(0, 4));
        Refused.none("58: without arbors", HorologeBench::new, it -> it.turn(1, 1));
        Refused.index("59: without arbors", HorologeBench::new, it -> it.turnsOf(0, 'n'));
        Refused.index("60: without arbors", HorologeBench::new, it -> it.star(0));
    }

    private static void teethOfWheels() {
        for (int teeth : new int[] {6, 7, 199, 200}) {
            HorologeBench bench = withArbors(3);
            bench.turn(1, 1);
            Due.is("53: teeth " + teeth, bench.mesh(0, teeth, 1, 100), 1);
            int divisor = teeth % 100 == 0 ? 100 : teeth % 2 == 0 ? 2 : 1;
            turned("53: by teeth " + teeth, bench, 1, -teeth / divisor, 100 / divisor);
            Due.is("53: others " + teeth, bench.mesh(0, 100, 2, teeth), 2);
            turned("53: by others " + teeth, bench, 2, -100 / divisor, teeth / divisor);
        }
        HorologeBench bench = withArbors(3);
        bench.turn(1, 1);
        bench.mesh(0, 200, 1, 6);
        bench.mesh(0, 6, 2, 200);
        turned("53: the most by the least", bench, 1, -100, 3);
        turned("53: the least by the most", bench, 2, -3, 100);
        Refused.outside("53: teeth", 6, 200, Watches::busy, (it, teeth) -> it.mesh(0, teeth, 4, 10));
        Refused.outside("53: others", 6, 200, Watches::busy, (it, teeth) -> it.mesh(0, 10, 4, teeth));
    }

    private static void theFirstOneIsNotDriven() {
        Refused.unsupported("53: the first one", Watches::busy, it -> it.mesh(4, 10, 0, 10));
        Refused.unsupported("54: the first one", Watches::busy, it -> it.fasten(4, 0));
        Refused.unsupported("55: the first one", Watches::busy, it -> it.differ(4, 4, 0));
        Refused.unsupported("53: the first one of one", () -> withArbors(1), it -> it.mesh(0, 10, 0, 10));
        Refused.unsupported("54: the first one of one", () -> withArbors(1), it -> it.fasten(0, 0));
        Refused.unsupported("55: the first one of one", () -> withArbors(1), it -> it.differ(0, 0, 0));
        Refused.unsupported("56: the first one is not driven", Watches::busy, it -> it.loosen(0));
    }

    private static void joinedAlready() {
        // Of the busy watch, 1 is driven by wheels, 2 is fast, and 3 is driven by a differential.
        for (int driven = 1; driven <= 3; driven++) {
            int arbor = driven;
            Refused.unsupported("53: joined already, " + driven, Watches::busy, it -> it.mesh(0, 10, arbor, 10));
            Refused.unsupported("53: joined already, by another, " + driven, Watches::busy,
                    it -> it.mesh(4, 10, arbor, 10));
            Refused.unsupported("54: joined already, " + driven, Watches::busy, it -> it.fasten(0, arbor));
            Refused.unsupported("54: joined already, by another, " + driven, Watches::busy,
                    it -> it.fasten(4, arbor));
            Refused.unsupported("55: joined already, " + driven, Watches::busy, it -> it.differ(0, 4, arbor));
        }
        Due.is("53: the last one is free", Watches.busy().mesh(3, 10, 4, 10), 4);
        Due.is("54: the last one is free", Watches.busy().fasten(3, 4), 4);
        Due.is("55: the last one is free", Watches.busy().differ(3, 0, 4), 4);
    }

    private static void itself() {
        Refused.unsupported("53: itself", Watches::busy, it -> it.mesh(4, 10, 4, 10));
        Refused.unsupported("54: itself", Watches::busy, it -> it.fasten(4, 4));
        Refused.unsupported("55: itself as the one", Watches::busy, it -> it.differ(4, 0, 4));
        Refused.unsupported("55: itself as the other", Watches::busy, it -> it.differ(0, 4, 4));
        Refused.unsupported("55: itself as both", Watches::busy, it -> it.differ(4, 4, 4));
    }

    /** Arbor 4 drives 5, which drives 6, of a chain that is not joined to the first arbor. */
    private static HorologeBench lower() {
        HorologeBench bench = withArbors(9);
        bench.mesh(4, 30, 5, 20);
        bench.fasten(5, 6);
        bench.turn(9, 4);
        return bench;
    }

    private static void drivesTheOtherOne() {
        Refused.unsupported("53: drives it", ArborEdgesTest::lower, it -> it.mesh(5, 10, 4, 10));
        Refused.unsupported("54: drives it", ArborEdgesTest::lower, it -> it.fasten(5, 4));
        Refused.unsupported("55: drives the one", ArborEdgesTest::lower, it -> it.differ(5, 0, 4));
        Refused.unsupported("55: drives the other", ArborEdgesTest::lower, it -> it.differ(0, 5, 4));
        Due.is("53: beside it", lower().mesh(7, 10, 4, 10), 3);
        Due.is("54: beside it", lower().fasten(7, 4), 3);
        Due.is("55: beside it", lower().differ(0, 7, 4), 3);
    }

    private static void drivesOverOthers() {
        Refused.unsupported("53: drives it over another", ArborEdgesTest::lower, it -> it.mesh(6, 10, 4, 10));
        Refused.unsupported("54: drives it over another", ArborEdgesTest::lower, it -> it.fasten(6, 4));
        Refused.unsupported("55: drives the one over another", ArborEdgesTest::lower, it -> it.differ(6, 0, 4));
        Refused.unsupported("55: drives the other over another", ArborEdgesTest::lower,
                it -> it.differ(0, 6, 4));
        Refused.unsupported("54: drives it over fourteen", ArborEdgesTest::longChain, it -> it.fasten(15, 1));
        Due.is("54: the first one drives them all", longChain().fasten(0, 1), 15);
        HorologeBench cut = lower();
        cut.loosen(5);
        Due.is("54: no longer over another", cut.fasten(6, 4), 2);
    }

    /** Arbor 1 drives 2, and so on, to 15; joined from the last one on. */
    private static HorologeBench longChain() {
        HorologeBench bench = withArbors(16);
        for (int arbor = 15; arbor > 1; arbor--) {
            bench.fasten(arbor - 1, arbor);
        }
        return bench;
    }

    /** Arbor 7 is driven by 0 and 4, and drives 8. */
    private static HorologeBench between() {
        HorologeBench bench = withArbors(9);
        bench.differ(0, 4, 7);
        bench.fasten(7, 8);
        bench.turn(3, 1);
        return bench;
    }

    private static void drivesByADifferential() {
        Refused.unsupported("53: drives it by a differential", ArborEdgesTest::between,
                it -> it.mesh(7, 10, 4, 10));
        Refused.unsupported("54: drives it over a differential", ArborEdgesTest::between, it -> it.fasten(8, 4));
        Refused.unsupported("55: drives the one over a differential", ArborEdgesTest::between,
                it -> it.differ(8, 5, 4));
        Refused.unsupported("55: drives the other over a differential", ArborEdgesTest::between,
                it -> it.differ(5, 8, 4));
        HorologeBench bench = between();
        Due.is("54: by another one", bench.fasten(0, 4), 3);
        turned("55: as from the beginning", bench, 8, 3, 1);
    }

    private static void whatOnlyDrivesCanBeDriven() {
        HorologeBench bench = lower();
        turned("53: driven by nothing", bench, 6, 0, 1);
        Due.is("53: one that drives is driven", bench.mesh(0, 10, 4, 20), 3);
        turned("53: what it drives follows", bench, 6, 27, 16);
    }

    private static void countsOfDriven() {
        Due.is("53: the first one that is driven", withArbors(2).mesh(0, 6, 1, 6), 1);
        HorologeBench bench = chain();
        Due.is("56: one less", bench.loosen(7), 14);
        Due.is("54: one more", bench.fasten(6, 7), 15);
        for (int arbor = 15; arbor >= 1; arbor--) {
            Due.is("56: loosened " + arbor, bench.loosen(arbor), arbor - 1);
        }
        Refused.unsupported("56: none is left", () -> withArbors(2), it -> it.loosen(1));
    }

    private static void asFromTheBeginning() {
        HorologeBench bench = withArbors(4);
        bench.turn(-5, 3);
        bench.mesh(0, 12, 1, 30);
        turned("53: as from the beginning", bench, 1, 2, 3);
        bench.fasten(1, 2);
        turned("54: as from the beginning", bench, 2, 2, 3);
        bench.differ(0, 2, 3);
        turned("55: as from the beginning", bench, 3, -1, 2);
        bench.turn(5, 3);
        for (int arbor = 0; arbor <= 3; arbor++) {
            turned("58: turned back to 0, " + arbor, bench, arbor, 0, 1);
        }
    }

    private static void looseOnesStand() {
        HorologeBench bench = Watches.busy();
        Due.is("56: the fast one", bench.loosen(2), 2);
        turned("56: it stands at 0", bench, 2, 0, 1);
        turned("56: half of the first one", bench, 3, 5, 4);
        bench.turn(1, 1);
        turned("56: it stands as the first one turns", bench, 2, 0, 1);
        Due.is("54: it is fast again", bench.fasten(1, 2), 3);
        turned("54: as if it had been so from the beginning", bench, 2, -25, 1);
    }

    private static void loosenWhatIsNotDriven() {
        Refused.unsupported("56: one that only stands", Watches::busy, it -> it.loosen(4));
        Refused.unsupported("56: one that only drives", ArborEdgesTest::lower, it -> it.loosen(4));
        Refused.unsupported("56: loosened already", () -> {
            HorologeBench bench = Watches.busy();
            bench.loosen(3);
            return bench;
        }, it -> it.loosen(3));
    }

    private static void joinBy(HorologeBench bench, int way) {
        if (way == 0) {
            bench.mesh(1, 30, 3, 20);
        } else if (way == 1) {
            bench.fasten(1, 3);
        } else {
            bench.differ(0, 2, 3);
        }
    }

    /** Nothing is left of the way in which an arbor was joined before. */
    private static void joinedAnew() {
        int[][] due = {{9, 1}, {-6, 1}, {-2, 1}};
        for (int before = 0; before < WAYS; before++) {
            for (int way = 0; way < WAYS; way++) {
                HorologeBench bench = withArbors(5);
                bench.turn(4, 1);
                bench.mesh(0, 30, 1, 20);
                bench.mesh(0, 40, 2, 20);
                joinBy(bench, before);
                bench.loosen(3);
                turned("56: it stands, " + before, bench, 3, 0, 1);
                joinBy(bench, way);
                turned("53 to 55: by " + way + " behind " + before, bench, 3, due[way][0], due[way][1]);
            }
        }
    }

    /** One that was a part of a differential can be driven when that is gone. */
    private static void joinedAnewByOneOfTwo() {
        for (int way = 0; way < WAYS - 1; way++) {
            HorologeBench bench = withArbors(7);
            bench.turn(4, 1);
            bench.mesh(0, 30, 1, 20);
            bench.differ(5, 6, 3);
            bench.loosen(3);
            joinBy(bench, way);
            Due.is("54: the one is free, " + way, bench.fasten(3, 5), 3);
            Due.is("54: the other one is free, " + way, bench.fasten(3, 6), 4);
            turned("54: the other one follows, " + way, bench, 6, way == 0 ? 9 : -6, 1);
        }
    }

    /** Arbor 6 turns a million times as far as the first one, and 7, 8 and 9 are free. */
    private static HorologeBench million(int turns, int parts) {
        HorologeBench bench = withArbors(10);
        for (int arbor = 0; arbor < 6; arbor++) {
            bench.mesh(arbor, 200, arbor + 1, 20);
        }
        bench.turn(turns, parts);
        return bench;
    }

    /** Arbor 6 turns a millionth as far as the first one, and 7 and 8 are free. */
    private static HorologeBench millionth(int turns, int parts) {
        HorologeBench bench = withArbors(9);
        for (int arbor = 0; arbor < 6; arbor++) {
            bench.mesh(arbor, 20, arbor + 1, 200);
        }
        bench.turn(turns, parts);
        return bench;
    }

    private static void numeratorJustGreatest() {
        HorologeBench bench = million(999, 1);
        Due.is("58: on to just 1000000000", bench.turn(1, 1), 0);
        turned("58: just 1000000000", bench, 6, GREATEST, 1);
        turned("58: against it on the way", bench, 5, -GREATEST / 10, 1);
        Due.is("53: the same against it", bench.mesh(6, 200, 7, 200), 7);
        turned("53: just -1000000000", bench, 7, -GREATEST, 1);
        Due.is("54: the same with it", bench.fasten(6, 8), 8);
        turned("54: just 1000000000", bench, 8, GREATEST, 1);
        Refused.arithmetic("53: 200 to 199", () -> million(1000, 1), it -> it.mesh(6, 200, 7, 199));
        Refused.arithmetic("53: 7 to 6, though shortened", () -> million(1000, 1), it -> it.mesh(6, 7, 7, 6));
        Refused.arithmetic("58: a little more", () -> million(1000, 1), it -> it.turn(1, 1000));
        Refused.arithmetic("58: a turn more", () -> million(1000, 1), it -> it.turn(1, 1));
        Due.is("58: a little less", million(1000, 1).turn(-1, 1000), 0);
    }

    private static void numeratorJustLeast() {
        HorologeBench bench = million(-999, 1);
        Due.is("58: back to just -1000000000", bench.turn(-1, 1), 0);
        turned("58: just -1000000000", bench, 6, -GREATEST, 1);
        Due.is("53: the same against it", bench.mesh(6, 6, 7, 6), 7);
        turned("53: just 1000000000", bench, 7, GREATEST, 1);
        Refused.arithmetic("58: a little less", () -> million(-1000, 1), it -> it.turn(-1, 1000));
        Refused.arithmetic("53: 200 to 199", () -> million(-1000, 1), it -> it.mesh(6, 200, 7, 199));
    }

    private static void denominatorJustGreatest() {
        HorologeBench bench = millionth(1, 999);
        turned("58: a denominator of 999000000", bench, 6, 1, 999000000);
        bench.turn(-1, 999);
        Due.is("58: on by a 1000th", bench.turn(1, 1000), 0);
        turned("58: a denominator of just 1000000000", bench, 6, 1, GREATEST);
        Due.is("54: the same", bench.fasten(6, 7), 7);
        turned("54: a denominator of just 1000000000", bench, 7, 1, GREATEST);
        Due.is("55: twice the same is just it", bench.differ(6, 7, 8), 8);
        turned("55: a denominator of just 1000000000", bench, 8, 1, GREATEST);
        Refused.arithmetic("53: 199 to 200", () -> millionth(1, 1000), it -> it.mesh(6, 199, 7, 200));
        Refused.arithmetic("53: 6 to 7", () -> millionth(1, 1000), it -> it.mesh(6, 6, 7, 7));
        Refused.arithmetic("55: half of it", () -> millionth(1, 1000), it -> it.differ(6, 7, 8));
        Refused.arithmetic("58: a third more", () -> millionth(1, 1000), it -> it.turn(1, 3));
        Due.is("53: shortened, it is smaller", millionth(1, 1000).mesh(6, 200, 7, 6), 7);
    }

    /** The far arbor of a million turns is 1000000000; 8 is driven by the free arbor 7. */
    private static HorologeBench followed(int teeth, int others) {
        HorologeBench bench = million(1000, 1);
        bench.mesh(7, teeth, 8, others);
        return bench;
    }

    private static void numberOfOneThatFollows() {
        Refused.arithmetic("54: of one that follows", () -> followed(7, 6), it -> it.fasten(6, 7));
        Refused.arithmetic("53: of one that follows", () -> followed(200, 199), it -> it.mesh(6, 200, 7, 200));
        Refused.arithmetic("55: of one that follows", () -> followed(7, 6), it -> it.differ(6, 6, 7));
        HorologeBench same = followed(200, 200);
        Due.is("54: just the same", same.fasten(6, 7), 8);
        turned("54: of one that follows", same, 8, -GREATEST, 1);
        Refused.arithmetic("55: half of a little more, doubled", () -> followed(12, 6), it -> it.differ(6, 0, 7));
        HorologeBench half = followed(12, 6);
        Due.is("55: half of it, doubled", half.differ(6, 9, 7), 8);
        turned("55: of one that follows", half, 8, -GREATEST, 1);
    }

    private static void differentialTooGreat() {
        HorologeBench bench = withArbors(16);
        bench.turn(1, 1000);
        for (int arbor = 0; arbor < 6; arbor++) {
            bench.mesh(arbor, 20, arbor + 1, 200);
        }
        bench.mesh(0, 7, 7, 189);
        for (int arbor = 7; arbor < 10; arbor++) {
            bench.mesh(arbor, 7, arbor + 1, 189);
        }
        turned("53: a great denominator", bench, 10, 1, 531441000);
        Due.throwing("55: two great ones", ArithmeticException.class, () -> bench.differ(6, 10, 11));
        Due.throwing("55: the other way", ArithmeticException.class, () -> bench.differ(10, 6, 11));
        turned("55: nothing has changed", bench, 11, 0, 1);
        Due.is("55: it is free", bench.differ(10, 10, 11), 11);
        turned("55: of one and the same", bench, 11, 1, 531441000);
    }

    /** Arbor 8 stands between 6 and 7, which turn against each other, and drives 9. */
    private static HorologeBench balanced(HorologeBench bench, int teeth, int others) {
        bench.addArbor();
        bench.mesh(6, 6, 7, 6);
        bench.differ(6, 7, 8);
        bench.mesh(8, teeth, 9, others);
        return bench;
    }

    private static void looseningTooGreat() {
        HorologeBench bench = balanced(million(1000, 1), 32, 16);
        Due.is("56: it leaves 8", bench.loosen(7), 8);
        turned("56: half of the other one", bench, 8, GREATEST / 2, 1);
        turned("56: of one that follows, just -1000000000", bench, 9, -GREATEST, 1);
        Refused.arithmetic("56: of one that follows, beyond", () -> balanced(million(1000, 1), 33, 16),
                it -> it.loosen(7));
        HorologeBench small = balanced(millionth(1, 500), 6, 6);
        Due.is("56: it leaves 8 small ones", small.loosen(7), 8);
        turned("56: a denominator of just 1000000000", small, 9, -1, GREATEST);
        Refused.arithmetic("56: a denominator beyond", () -> balanced(millionth(1, 501), 6, 6),
                it -> it.loosen(7));
    }

    private static void turningTooGreat() {
        Refused.arithmetic("58: 1000 turns more", () -> million(1, 1), it -> it.turn(1000, 1));
        Refused.arithmetic("58: 1000 turns less", () -> million(-1, 1), it -> it.turn(-1000, 1));
        Due.is("58: 999 turns more", million(1, 1).turn(999, 1), 0);
    }

    /** Each arbor is driven by a later one, so that none is known when it is looked at first. */
    private static void refusedTurnsLeaveNothing() {
        HorologeBench bench = withArbors(7);
        for (int arbor = 1; arbor < 6; arbor++) {
            bench.mesh(arbor + 1, 200, arbor, 20);
        }
        bench.mesh(0, 200, 6, 20);
        bench.turn(1000, 1);
        turned("58: by later ones", bench, 1, GREATEST, 1);
        Due.throwing("58: a turn more", ArithmeticException.class, () -> bench.turn(1, 1));
        Due.is("58: a turn less", bench.turn(-1, 1), 0);
        turned("58: nothing is left of the one that was refused", bench, 1, 999000000, 1);
    }

    private static void fractionOfTheFirstOne() {
        HorologeBench bench = withArbors(1);
        bench.turn(1, 997);
        bench.turn(1, 991);
        bench.turn(1, 983);
        turned("58: three great parts", bench, 0, 2942231, 971230541);
        Supplier<HorologeBench> again = () -> {
            HorologeBench one = withArbors(1);
            one.turn(1, 997);
            one.turn(1, 991);
            one.turn(1, 983);
            return one;
        };
        Refused.arithmetic("58: half a turn more", again, it -> it.turn(1, 2));
        Refused.arithmetic("58: a part more", again, it -> it.turn(-1000, 999));
        Due.is("58: whole turns may be", bench.turn(0, 1000), 0);
        bench.turn(-1, 983);
        turned("58: a part less", bench, 0, 1988, 988027);
    }

    /** Turned by 1012 turns and a part. */
    private static HorologeBench farAround(int sign, int parts) {
        HorologeBench bench = withArbors(1);
        bench.turn(sign * 1000, 1);
        bench.turn(sign * 12, 1);
        bench.turn(sign * parts, 997);
        return bench;
    }

    private static void numeratorByOneTooGreat() {
        for (int sign : new int[] {1, -1}) {
            HorologeBench bench = farAround(sign, 494);
            Due.is("58: to a numerator of 1000000000, " + sign, bench.turn(sign * -374, 991), 0);
            turned("58: just 1000000000, " + sign, bench, 0, sign * GREATEST, 988027);
            Refused.arithmetic("58: to a numerator of 1000000001, " + sign, () -> farAround(sign, 660),
                    it -> it.turn(sign * -539, 991));
        }
    }

    private static void meshTwoExceptions() {
        for (int wrong : new int[] {5, 201}) {
            Refused.index("53: no driver ahead of the teeth " + wrong, Watches::busy, it -> it.mesh(5, wrong, 4, 10));
            Refused.index("53: no driver ahead of the others " + wrong, Watches::busy,
                    it -> it.mesh(-1, 10, 4, wrong));
            Refused.index("53: no driven one ahead of the teeth " + wrong, Watches::busy,
                    it -> it.mesh(0, wrong, 5, 10));
            Refused.index("53: no driven one ahead of the others " + wrong, Watches::busy,
                    it -> it.mesh(0, 10, -1, wrong));
        }
        Refused.index("53: no driver ahead of the first one", Watches::busy, it -> it.mesh(5, 10, 0, 10));
        Refused.argument("53: the teeth ahead of the first one", Watches::busy, it -> it.mesh(4, 5, 0, 10));
        Refused.argument("53: the others ahead of one that is joined", Watches::busy,
                it -> it.mesh(0, 10, 1, 201));
        Refused.argument("53: the teeth ahead of itself", Watches::busy, it -> it.mesh(4, 201, 4, 10));
        Refused.argument("53: the teeth ahead of too great a number", () -> million(1000, 1),
                it -> it.mesh(6, 201, 7, 6));
        Refused.unsupported("53: joined ahead of too great a number", () -> million(1000, 1),
                it -> it.mesh(6, 200, 5, 6));
    }

    private static void fastenTwoExceptions() {
        Refused.index("54: no driver ahead of the first one", Watches::busy, it -> it.fasten(5, 0));
        Refused.index("54: no driver ahead of one that is joined", Watches::busy, it -> it.fasten(-1, 1));
        Refused.unsupported("54: joined ahead of too great a number", () -> {
            HorologeBench bench = followed(7, 6);
            bench.fasten(0, 7);
            return bench;
        }, it -> it.fasten(6, 7));
    }

    private static void differTwoExceptions() {
        Refused.index("55: no one ahead of the first one", Watches::busy, it -> it.differ(5, 1, 0));
        Refused.index("55: no other ahead of the first one", Watches::busy, it -> it.differ(1, 5, 0));
        Refused.index("55: no other ahead of itself", Watches::busy, it -> it.differ(4, -1, 4));
        Refused.unsupported("55: joined ahead of too great a number", () -> {
            HorologeBench bench = millionth(1, 1000);
            bench.fasten(0, 8);
            return bench;
        }, it -> it.differ(6, 7, 8));
    }

    private static void pointsOfStars() {
        for (int points : new int[] {4, 5, 30, 31}) {
            HorologeBench bench = withArbors(2);
            Due.is("57: points " + points, bench.addStar(0, points), 1);
            Due.is("57: at the point 0 of " + points, bench.star(0), 0);
            bench.turn(points - 1, 1);
            Due.is("60: the last point of " + points, bench.star(0), points - 1);
            bench.turn(1, 1);
            Due.is("60: comes round of " + points, bench.star(0), 0);
            bench.turn(-1, 1);
            Due.is("60: back round of " + points, bench.star(0), points - 1);
        }
        Refused.outside("57: points", 4, 31, Watches::busy, (it, points) -> it.addStar(0, points));
        HorologeBench turned = withArbors(1);
        turned.turn(17, 3);
        turned.addStar(0, 6);
        Due.is("57: at the point 0, however far its arbor is turned", turned.star(0), 0);
    }

    private static void starsOfAllArbors() {
        HorologeBench bench = withArbors(16);
        for (int arbor = 0; arbor < 16; arbor++) {
            Due.is("57: so many stars", bench.addStar(arbor, 4), arbor + 1);
        }
        for (int arbor = 0; arbor < 16; arbor++) {
            int number = arbor;
            Refused.state("57: it has one, " + arbor, ArborEdgesTest::chain, it -> it.addStar(number, 9));
        }
        Due.is("58: sixteen are moved", chain().turn(1, 1), 16);
    }

    private static void starTwoExceptions() {
        Refused.index("57: no arbor ahead of the points", Watches::busy, it -> it.addStar(5, 3));
        Refused.argument("57: the points ahead of the star", Watches::busy, it -> it.addStar(1, 3));
        Refused.argument("57: too many points ahead of the star", Watches::busy, it -> it.addStar(1, 32));
        Refused.index("59: no arbor ahead of the part", Watches::busy, it -> it.turnsOf(5, 'x'));
        Refused.index("59: no arbor ahead of the part, without arbors", HorologeBench::new,
                it -> it.turnsOf(0, 'x'));
    }

    private static HorologeBench star(int points) {
        HorologeBench bench = withArbors(1);
        bench.addStar(0, points);
        return bench;
    }

    private static void starsComeRound() {
        HorologeBench bench = star(5);
        Due.is("58: just round", bench.turn(5, 1), 1);
        Due.is("60: at the same point", bench.star(0), 0);
        Due.is("58: many times round", bench.turn(1000, 1), 1);
        Due.is("60: at the same point again", bench.star(0), 0);
        Due.is("58: nearly round", bench.turn(999, 1), 1);
        Due.is("60: the last point", bench.star(0), 4);
        Due.is("58: and on", bench.turn(7, 1), 1);
        Due.is("60: a point more", bench.star(0), 1);
    }

    private static void starsGoBack() {
        HorologeBench bench = star(31);
        Due.is("58: a little back is a whole turn less", bench.turn(-1, 1000), 1);
        Due.is("60: back behind 0", bench.star(0), 30);
        Due.is("58: to 1 turn back", bench.turn(-999, 1000), 0);
        Due.is("58: beyond it", bench.turn(-1, 1000), 1);
        Due.is("60: two back", bench.star(0), 29);
        Due.is("58: far back", bench.turn(-1000, 1), 1);
        Due.is("60: back by 1000", bench.star(0), Math.floorMod(29 - 1000, 31));
        Due.is("58: round back", bench.turn(-31, 1), 1);
        Due.is("60: at the same point", bench.star(0), Math.floorMod(29 - 1000, 31));
    }

    private static void starsAtWholeTurns() {
        HorologeBench bench = star(4);
        Due.is("58: less than a turn", bench.turn(999, 1000), 0);
        Due.is("60: not moved", bench.star(0), 0);
        Due.is("58: just a turn", bench.turn(1, 1000), 1);
        Due.is("60: moved", bench.star(0), 1);
        Due.is("58: nothing", bench.turn(0, 1), 0);
        Due.is("58: a little back", bench.turn(-1, 1000), 1);
        Due.is("60: moved back", bench.star(0), 0);
        Due.is("58: to 0", bench.turn(-999, 1000), 0);
        Due.is("60: at the point 0", bench.star(0), 0);
        HorologeBench against = withArbors(2);
        against.mesh(0, 10, 1, 20);
        against.addStar(1, 8);
        Due.is("58: half a turn back", against.turn(1, 1), 1);
        Due.is("60: rounded down", against.star(1), 7);
        Due.is("58: a whole one back", against.turn(1, 1), 0);
        Due.is("60: stands", against.star(1), 7);
    }

    private static void starsMovedByTurningAlone() {
        HorologeBench bench = withArbors(3);
        bench.addStar(1, 9);
        bench.addStar(2, 9);
        bench.turn(100, 1);
        bench.fasten(0, 1);
        Due.is("60: joining moves no star", bench.star(1), 0);
        bench.mesh(0, 10, 2, 20);
        Due.is("60: nor does joining by wheels", bench.star(2), 0);
        Due.is("58: two are moved", bench.turn(2, 1), 2);
        Due.is("60: on by two", bench.star(1), 2);
        Due.is("60: back by one", bench.star(2), 8);
        bench.loosen(1);
        Due.is("60: loosening moves no star", bench.star(1), 2);
        Due.is("58: one is moved", bench.turn(2, 1), 1);
        Due.is("60: a loose one stays", bench.star(1), 2);
        bench.differ(0, 0, 1);
        Due.is("60: nor does a differential", bench.star(1), 2);
        Due.is("58: both again", bench.turn(-2, 1), 2);
        Due.is("60: from where it was", bench.star(1), 0);
    }

    private static void turnsAndParts() {
        for (int turns : new int[] {-1000, -999, 0, 999, 1000}) {
            HorologeBench bench = withArbors(1);
            Due.is("58: turns " + turns, bench.turn(turns, 1), 0);
            turned("58: by turns " + turns, bench, 0, turns, 1);
        }
        for (int parts : new int[] {1, 2, 999, 1000}) {
            HorologeBench bench = withArbors(1);
            Due.is("58: parts " + parts, bench.turn(1, parts), 0);
            turned("58: by parts " + parts, bench, 0, 1, parts);
            bench.turn(1000 - 1, parts);
            turned("58: up to 1000 of parts " + parts, bench, 0, parts == 999 ? 1000 : 1000 / parts,
                    parts == 999 ? 999 : 1);
        }
        Refused.outside("58: turns", -1000, 1000, Watches::busy, (it, turns) -> it.turn(turns, 2));
        Refused.outside("58: parts", 1, 1000, Watches::busy, (it, parts) -> it.turn(1, parts));
        Refused.none("58: no arbor", HorologeBench::new, it -> it.turn(0, 1));
    }

    private static void turnTwoExceptions() {
        Refused.argument("58: the turns ahead of no arbor", HorologeBench::new, it -> it.turn(1001, 1));
        Refused.argument("58: the parts ahead of no arbor", HorologeBench::new, it -> it.turn(1, 0));
        Refused.argument("58: the turns ahead of too great a number", () -> million(1000, 1),
                it -> it.turn(1001, 1));
        Refused.argument("58: the parts ahead of too great a number", () -> million(1000, 1),
                it -> it.turn(1, 1001));
    }

    private static void partsOfFractions() {
        Refused.letters("59: part", "nd", Watches::busy, (it, part) -> it.turnsOf(0, part));
        HorologeBench bench = withArbors(2);
        turned("59: the first one, not turned", bench, 0, 0, 1);
        turned("59: one that is driven by nothing", bench, 1, 0, 1);
        bench.turn(6, 8);
        turned("59: shortened", bench, 0, 3, 4);
        bench.turn(-10, 4);
        turned("59: less than 0", bench, 0, -7, 4);
        bench.turn(7, 4);
        turned("59: 0 has the denominator 1", bench, 0, 0, 1);
    }

    private static void arborsWithoutStars() {
        for (int arbor : new int[] {0, 2, 4}) {
            Refused.none("60: without a star, " + arbor, Watches::busy, it -> it.star(arbor));
        }
        Due.is("60: with a star", Watches.busy().star(1), 0);
    }
}
