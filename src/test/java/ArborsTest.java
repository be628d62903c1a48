import java.util.NoSuchElementException;

/** Promises 52 to 60: arbors, stars and turning. */
public final class ArborsTest {
    private static final int[] FAR = {Integer.MIN_VALUE, Integer.MAX_VALUE};

    public static void main(String[] args) {
        addArbor();
        mesh();
        fasten();
        differ();
        loosen();
        tooGreat();
        tooGreatBehind();
        addStar();
        turn();
        turnsOf();
        star();
        Due.end();
    }

    private static HorologeBench withArbors(int count) {
        HorologeBench bench = new HorologeBench();
        for (int i = 0; i < count; i++) {
            bench.addArbor();
        }
        return bench;
    }

    private static void turned(String what, HorologeBench bench, int arbor, long above, long below) {
        Due.is(what + ", the numerator", bench.turnsOf(arbor, 'n'), above);
        Due.is(what + ", the denominator", bench.turnsOf(arbor, 'd'), below);
    }

    private static void addArbor() {
        HorologeBench bench = new HorologeBench();
        for (int i = 0; i < 16; i++) {
            Due.is("52: arbor " + i, bench.addArbor(), i);
        }
        Due.throwing("52: there are 16", IllegalStateException.class, bench::addArbor);
        turned("52: it stands", bench, 15, 0, 1);
    }

    private static void mesh() {
        HorologeBench bench = withArbors(4);
        bench.turn(1, 2);
        Due.is("53: one is driven", bench.mesh(0, 60, 1, 8), 1);
        turned("53: against it, as from the beginning", bench, 1, -15, 4);
        Due.is("53: two are driven", bench.mesh(1, 200, 2, 6), 2);
        turned("53: against that one", bench, 2, 125, 1);
        Due.throwing("53: joined already", UnsupportedOperationException.class, () -> bench.mesh(0, 6, 2, 6));
        Due.throwing("53: the first one", UnsupportedOperationException.class, () -> bench.mesh(3, 6, 0, 6));
        Due.is("53: one that drives may be driven", bench.loosen(1), 1);
        Due.throwing("53: drives the other one", UnsupportedOperationException.class,
                () -> bench.mesh(2, 6, 1, 6));
        bench.mesh(2, 6, 3, 200);
        Due.throwing("53: drives it over another", UnsupportedOperationException.class,
                () -> bench.mesh(3, 6, 1, 6));
        Due.throwing("53: itself", UnsupportedOperationException.class, () -> bench.mesh(1, 6, 1, 6));
        Due.is("53: as before", bench.mesh(0, 60, 1, 8), 3);
        turned("53: all follow", bench, 3, -15, 4);
        int[] wrongArbors = {-1, 4, FAR[0], FAR[1]};
        for (int arbor : wrongArbors) {
            Due.throwing("53: driver " + arbor, IndexOutOfBoundsException.class,
                    () -> bench.mesh(arbor, 5, 1, 6));
            Due.throwing("53: driven " + arbor, IndexOutOfBoundsException.class,
                    () -> bench.mesh(0, 6, arbor, 201));
        }
        int[] wrongTeeth = {5, 201, FAR[0], FAR[1]};
        for (int teeth : wrongTeeth) {
            Due.throwing("53: teeth " + teeth, IllegalArgumentException.class, () -> bench.mesh(0, teeth, 0, 6));
            Due.throwing("53: others " + teeth, IllegalArgumentException.class, () -> bench.mesh(0, 6, 0, teeth));
        }
    }

    private static void fasten() {
        HorologeBench bench = withArbors(4);
        bench.turn(-7, 3);
        Due.is("54: one is driven", bench.fasten(0, 1), 1);
        turned("54: as the other one", bench, 1, -7, 3);
        Due.is("54: one that nothing drives may drive", bench.fasten(2, 3), 2);
        turned("54: and stands", bench, 3, 0, 1);
        Due.throwing("54: joined already", UnsupportedOperationException.class, () -> bench.fasten(0, 3));
        Due.throwing("54: the first one", UnsupportedOperationException.class, () -> bench.fasten(2, 0));
        Due.throwing("54: drives it", UnsupportedOperationException.class, () -> bench.fasten(3, 2));
        Due.throwing("54: is it", UnsupportedOperationException.class, () -> bench.fasten(2, 2));
        Due.is("54: a later one is joined", bench.fasten(1, 2), 3);
        turned("54: and takes what it drives along", bench, 3, -7, 3);
        int[] wrong = {-1, 4, FAR[0], FAR[1]};
        for (int arbor : wrong) {
            Due.throwing("54: driver " + arbor, IndexOutOfBoundsException.class, () -> bench.fasten(arbor, 0));
            Due.throwing("54: driven " + arbor, IndexOutOfBoundsException.class, () -> bench.fasten(0, arbor));
        }
    }

    private static void differ() {
        HorologeBench bench = withArbors(6);
        bench.turn(3, 2);
        bench.mesh(0, 60, 1, 8);
        Due.is("55: two are driven", bench.differ(0, 1, 2), 2);
        turned("55: half of the sum", bench, 2, -39, 8);
        Due.is("55: the same one", bench.differ(0, 0, 3), 3);
        turned("55: turns as it does", bench, 3, 3, 2);
        Due.is("55: with one that stands", bench.differ(4, 0, 5), 4);
        turned("55: half of it", bench, 5, 3, 4);
        Due.throwing("55: joined already", UnsupportedOperationException.class, () -> bench.differ(0, 1, 5));
        Due.throwing("55: the first one", UnsupportedOperationException.class, () -> bench.differ(1, 2, 0));
        Due.throwing("55: is the one", UnsupportedOperationException.class, () -> bench.differ(4, 0, 4));
        Due.throwing("55: is the other", UnsupportedOperationException.class, () -> bench.differ(0, 4, 4));
        Due.throwing("55: drives the one", UnsupportedOperationException.class, () -> bench.differ(5, 0, 4));
        Due.throwing("55: drives the other", UnsupportedOperationException.class, () -> bench.differ(0, 5, 4));
        Due.is("55: the sum of more", bench.differ(2, 3, 4), 5);
        turned("55: of two that are driven", bench, 4, -27, 16);
        turned("55: and what hangs on it", bench, 5, -3, 32);
        int[] wrong = {-1, 6, FAR[0], FAR[1]};
        for (int arbor : wrong) {
            Due.throwing("55: one " + arbor, IndexOutOfBoundsException.class, () -> bench.differ(arbor, 0, 0));
            Due.throwing("55: other " + arbor, IndexOutOfBoundsException.class, () -> bench.differ(0, arbor, 0));
            Due.throwing("55: driven " + arbor, IndexOutOfBoundsException.class, () -> bench.differ(0, 0, arbor));
        }
    }

    private static void loosen() {
        HorologeBench bench = withArbors(3);
        bench.mesh(0, 60, 1, 10);
        bench.differ(0, 1, 2);
        bench.turn(1, 1);
        Due.is("56: one is left", bench.loosen(1), 1);
        turned("56: it stands at 0", bench, 1, 0, 1);
        turned("56: what it drove follows", bench, 2, 1, 2);
        Due.throwing("56: not driven any more", UnsupportedOperationException.class, () -> bench.loosen(1));
        Due.throwing("56: the first one", UnsupportedOperationException.class, () -> bench.loosen(0));
        Due.is("56: none is left", bench.loosen(2), 0);
        Due.is("56: it may be joined anew", bench.fasten(0, 2), 1);
        int[] wrong = {-1, 3, FAR[0], FAR[1]};
        for (int arbor : wrong) {
            Due.throwing("56: arbor " + arbor, IndexOutOfBoundsException.class, () -> bench.loosen(arbor));
        }
    }

    private static void tooGreat() {
        HorologeBench bench = withArbors(8);
        bench.turn(1000, 1);
        bench.mesh(0, 200, 1, 20);
        bench.mesh(1, 200, 2, 20);
        bench.mesh(2, 200, 3, 20);
        bench.mesh(3, 200, 4, 20);
        bench.mesh(4, 200, 5, 20);
        bench.mesh(5, 200, 6, 20);
        turned("53: just 1000000000", bench, 6, 1000000000, 1);
        Due.throwing("53: beyond", ArithmeticException.class, () -> bench.mesh(6, 7, 7, 6));
        turned("53: nothing has changed", bench, 7, 0, 1);
        Due.is("53: the same number may be", bench.mesh(6, 6, 7, 6), 7);
        turned("53: against it", bench, 7, -1000000000, 1);
        Due.throwing("58: beyond", ArithmeticException.class, () -> bench.turn(1, 1));
        turned("58: nothing has changed", bench, 0, 1000, 1);
        HorologeBench fine = withArbors(8);
        fine.turn(1, 1000);
        fine.mesh(0, 20, 1, 200);
        fine.mesh(1, 20, 2, 200);
        fine.mesh(2, 20, 3, 200);
        fine.mesh(3, 20, 4, 200);
        fine.mesh(4, 20, 5, 200);
        fine.mesh(5, 20, 6, 200);
        turned("53: a denominator of 1000000000", fine, 6, 1, 1000000000);
        Due.throwing("55: a denominator beyond", ArithmeticException.class, () -> fine.differ(6, 0, 7));
    }

    private static void tooGreatBehind() {
        HorologeBench bench = withArbors(11);
        bench.turn(1000, 1);
        for (int arbor = 0; arbor < 6; arbor++) {
            bench.mesh(arbor, 200, arbor + 1, 20);
        }
        bench.mesh(7, 7, 8, 6);
        Due.throwing("54: beyond, of one that is driven", ArithmeticException.class, () -> bench.fasten(6, 7));
        turned("54: nothing has changed", bench, 7, 0, 1);
        Due.is("54: it is still free", bench.fasten(5, 7), 8);
        bench.loosen(7);
        bench.loosen(8);
        bench.mesh(6, 6, 7, 6);
        bench.differ(6, 7, 8);
        turned("55: one against the other", bench, 8, 0, 1);
        bench.mesh(8, 200, 9, 6);
        Due.throwing("56: beyond, of one that it drove", ArithmeticException.class, () -> bench.loosen(7));
        turned("56: nothing has changed", bench, 7, -1000000000, 1);
        Due.throwing("56: it is still driven", UnsupportedOperationException.class, () -> bench.fasten(0, 7));
        bench.loosen(9);
        Due.is("56: without that one", bench.loosen(7), 7);
        turned("56: half of the other one", bench, 8, 500000000, 1);
    }

    private static void addStar() {
        HorologeBench bench = withArbors(3);
        bench.turn(5, 1);
        Due.is("57: one", bench.addStar(0, 4), 1);
        Due.is("57: two", bench.addStar(2, 31), 2);
        Due.is("57: at the point 0", bench.star(0), 0);
        int[] wrongPoints = {3, 32, 0, FAR[0], FAR[1]};
        for (int points : wrongPoints) {
            Due.throwing("57: points " + points, IllegalArgumentException.class, () -> bench.addStar(0, points));
        }
        Due.throwing("57: it has one", IllegalStateException.class, () -> bench.addStar(0, 5));
        int[] wrong = {-1, 3, FAR[0], FAR[1]};
        for (int arbor : wrong) {
            Due.throwing("57: arbor " + arbor, IndexOutOfBoundsException.class, () -> bench.addStar(arbor, 3));
        }
    }

    private static void turn() {
        HorologeBench bench = withArbors(3);
        bench.mesh(0, 10, 1, 20);
        bench.addStar(0, 5);
        bench.addStar(1, 6);
        Due.is("58: no whole turn, but one back", bench.turn(1, 2), 1);
        Due.is("58: the first star stays", bench.star(0), 0);
        Due.is("58: the other one went back", bench.star(1), 5);
        Due.is("58: a whole turn", bench.turn(1, 2), 1);
        Due.is("58: the first star goes on", bench.star(0), 1);
        Due.is("58: round to the same point, it has moved", bench.turn(5, 1), 2);
        Due.is("58: at the same point", bench.star(0), 1);
        Due.is("58: not at all", bench.turn(0, 7), 0);
        turned("58: six turns", bench, 0, 6, 1);
        Due.is("58: back", bench.turn(-1000, 1), 2);
        turned("58: far back", bench, 0, -994, 1);
        bench.turn(1, 1000);
        turned("58: by a small part", bench, 0, -993999, 1000);
        int[] wrongTurns = {-1001, 1001, FAR[0], FAR[1]};
        for (int turns : wrongTurns) {
            Due.throwing("58: turns " + turns, IllegalArgumentException.class, () -> bench.turn(turns, 1));
        }
        int[] wrongParts = {0, -1, 1001, FAR[0], FAR[1]};
        for (int parts : wrongParts) {
            Due.throwing("58: parts " + parts, IllegalArgumentException.class, () -> bench.turn(1, parts));
        }
        HorologeBench bare = new HorologeBench();
        Due.throwing("58: no arbor", NoSuchElementException.class, () -> bare.turn(1, 1));
        Due.throwing("58: the numbers first", IllegalArgumentException.class, () -> bare.turn(1, 0));
    }

    private static void turnsOf() {
        HorologeBench bench = withArbors(2);
        turned("59: at first", bench, 0, 0, 1);
        bench.turn(6, 4);
        turned("59: shortened", bench, 0, 3, 2);
        bench.turn(-3, 1);
        turned("59: less than 0", bench, 0, -3, 2);
        bench.turn(3, 2);
        turned("59: 0 again", bench, 0, 0, 1);
        turned("59: driven by nothing", bench, 1, 0, 1);
        Due.throwing("59: no such part", IllegalArgumentException.class, () -> bench.turnsOf(0, 'x'));
        int[] wrong = {-1, 2, FAR[0], FAR[1]};
        for (int arbor : wrong) {
            Due.throwing("59: arbor " + arbor, IndexOutOfBoundsException.class, () -> bench.turnsOf(arbor, 'x'));
        }
    }

    private static void star() {
        HorologeBench bench = withArbors(3);
        bench.fasten(0, 1);
        bench.addStar(1, 7);
        bench.turn(3, 2);
        Due.is("60: whole turns only", bench.star(1), 1);
        bench.turn(-3, 1);
        Due.is("60: rounded down", bench.star(1), 5);
        bench.loosen(1);
        Due.is("60: loosening moves none", bench.star(1), 5);
        Due.is("60: nor does turning another", bench.turn(10, 1), 0);
        bench.fasten(0, 1);
        Due.is("60: joining moves none", bench.star(1), 5);
        bench.turn(1, 1);
        Due.is("60: on from there", bench.star(1), 6);
        bench.turn(1, 1);
        Due.is("60: round", bench.star(1), 0);
        Due.throwing("60: it has none", NoSuchElementException.class, () -> bench.star(0));
        int[] wrong = {-1, 3, FAR[0], FAR[1]};
        for (int arbor : wrong) {
            Due.throwing("60: arbor " + arbor, IndexOutOfBoundsException.class, () -> bench.star(arbor));
        }
    }
}
