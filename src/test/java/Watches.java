/** Watches as the tests want them. */
final class Watches {
    private Watches() {
    }

    /** Puts in all parts that are not in, in the order of their numbers. */
    static HorologeBench complete(HorologeBench bench) {
        for (int part = 0; part <= 9; part++) {
            if (!bench.isIn(part)) {
                bench.putIn(part);
            }
        }
        return bench;
    }

    static HorologeBench whole() {
        return complete(new HorologeBench());
    }

    static HorologeBench wound(int turns) {
        HorologeBench bench = whole();
        bench.wind(turns);
        return bench;
    }

    static HorologeBench withEscapement(char kind, int turns) {
        HorologeBench bench = new HorologeBench();
        bench.setEscapement(kind);
        complete(bench).wind(turns);
        return bench;
    }

    /** A watch whose hands show this minute of the day, on the date on which it was made. */
    static HorologeBench at(int minute) {
        HorologeBench bench = whole();
        return moveTo(bench, minute);
    }

    /** Turns back for what is needed, so that nothing strikes, rings or goes on. */
    static HorologeBench moveTo(HorologeBench bench, int minute) {
        int back = bench.shows('d') / 60 - minute;
        if (back < 0) {
            back += 1440;
        }
        while (back > 0) {
            int step = Math.min(back, 720);
            bench.setHands(-step);
            back -= step;
        }
        return bench;
    }

    /** Lets the hands pass so many midnights, from noon to noon. */
    static void passMidnights(HorologeBench bench, int times) {
        for (int i = 0; i < times; i++) {
            bench.setHands(720);
            bench.setHands(720);
        }
    }

    static String date(HorologeBench bench) {
        return bench.calendar('d') + "." + bench.calendar('m') + "." + bench.calendar('y');
    }
}
