/** Watches as the tests want them. */
final class Watches {
    private Watches() {
    }

    /** Puts in all parts that are not in, in the order of their numbers. */
    static HorologeBench complete(HorologeBench bench) {
        for (int part = 0; part <= 9; part++) {
            if (!bench.isIn(part)) {
                bench.putIn(part);
            }
        }
        return bench;
    }

    static HorologeBench whole() {
        return complete(new HorologeBench());
    }

    static HorologeBench wound(int turns) {
        HorologeBench bench = whole();
        bench.wind(turns);
        return bench;
    }

    static HorologeBench withEscapement(char kind, int turns) {
        HorologeBench bench = new HorologeBench();
        bench.setEscapement(kind);
        complete(bench).wind(turns);
        return bench;
    }

    /** A whole watch that is not wound. */
    static HorologeBench made(boolean hasFusee, boolean hasStopworks, char escapement) {
        HorologeBench bench = new HorologeBench();
        bench.setFusee(hasFusee);
        bench.setStopworks(hasStopworks);
        bench.setEscapement(escapement);
        return complete(bench);
    }

    /** A watch whose hands show this minute of the day, on the date on which it was made. */
    static HorologeBench at(int minute) {
        HorologeBench bench = whole();
        return moveTo(bench, minute);
    }

    /** Turns back for what is needed, so that nothing strikes, rings or goes on. */
    static HorologeBench moveTo(HorologeBench bench, int minute) {
        int back = bench.shows('d') / 60 - minute;
        if (back < 0) {
            back += 1440;
        }
        while (back > 0) {
            int step = Math.min(back, 720);
            bench.setHands(-step);
            back -= step;
        }
        return bench;
    }

    /** Lets the hands pass so many midnights, from noon to noon. */
    static void passMidnights(HorologeBench bench, int times) {
        for (int i = 0; i < times; i++) {
            bench.setHands(720);
            bench.setHands(720);
        }
    }

    static String date(HorologeBench bench) {
        return bench.calendar('d') + "." + bench.calendar('m') + "." + bench.calendar('y');
    }

    /** A watch in which nothing is as at first, so that each change of it is seen later. */
    static HorologeBench busy() {
        HorologeBench bench = new HorologeBench();
        bench.setEscapement('d');
        bench.setCalendar('q');
        bench.setStrike('w');
        bench.setMoon('3');
        bench.setSurprise(false);
        bench.setStopworks(true);
        addGears(bench);
        complete(bench).wind(5);
        bench.setHands(500);
        bench.setDate(27, 2, 0);
        bench.setPosition(11);
        bench.setWarmth(17);
        bench.setPoise(-6);
        bench.setHourRate(8, 21);
        bench.setEquation(2, 9);
        bench.setFault('b', true);
        bench.setAlarm(535);
        bench.setMoonAge(77);
        bench.jumpZone(-3);
        bench.push('a');
        bench.pass(20);
        bench.push('s');
        bench.pass(7);
        return bench;
    }

    private static void addGears(HorologeBench bench) {
        for (int arbor = 0; arbor < 5; arbor++) {
            bench.addArbor();
        }
        bench.mesh(0, 50, 1, 7);
        bench.fasten(1, 2);
        bench.differ(0, 2, 3);
        bench.addStar(1, 9);
        bench.addStar(3, 31);
        bench.turn(5, 2);
    }

    /** A wound watch without anything else, beside arbors. */
    static HorologeBench wholeWithGears() {
        HorologeBench bench = wound(3);
        addGears(bench);
        return bench;
    }

    /** The busy watch with the crown in a place. */
    static HorologeBench busyWithCrown(int place) {
        HorologeBench bench = busy();
        bench.crown(place);
        return bench;
    }

    /** The busy watch without these parts. */
    static HorologeBench busyWithout(int... parts) {
        HorologeBench bench = busy();
        for (int part : parts) {
            bench.takeOut(part);
        }
        return bench;
    }

    /** Winds a whole watch that goes down so far, until its spring has just so many minutes. */
    static HorologeBench windTo(HorologeBench bench, int minutes) {
        int turns = (minutes + 359) / 360;
        if (turns == 0) {
            return bench;
        }
        int more = bench.wind(turns) - minutes;
        if (more > 0) {
            bench.pass(more);
        }
        return bench;
    }

    /** A watch with a lever whose spring has just so many minutes, and whose hands are at 0 again. */
    static HorologeBench withMinutes(int minutes) {
        HorologeBench bench = windTo(whole(), minutes);
        while (bench.shows('d') >= 60) {
            bench.setHands(-Math.min(720, bench.shows('d') / 60));
        }
        return bench;
    }

    /**
     * A watch whose hands show the last second of this minute of the day, and which gains and loses
     * nothing in the next hours.
     */
    static HorologeBench atLastSecond(int minute) {
        HorologeBench bench = windTo(whole(), 1439);
        bench.setPosition(-60);
        bench.pass(1);
        bench.setPosition(0);
        if (bench.shows('s') != 59) {
            throw new IllegalStateException("it did not lose a second");
        }
        return moveTo(bench, minute);
    }

    static int onTwelve(int hour) {
        return hour % 12 == 0 ? 12 : hour % 12;
    }

    /** The last day of a month by a kind of calendar, in a year of four. */
    static int lastDay(char kind, int month, int year) {
        int[] days = {31, 28, 31, 30, 31, 30, 31, 31, 30, 31, 30, 31};
        if (kind == 'p') {
            return 31;
        }
        if (month == 2) {
            return kind == 'a' ? 30 : year == 0 ? 29 : 28;
        }
        return days[month - 1];
    }
}
