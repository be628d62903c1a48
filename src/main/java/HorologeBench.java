import java.util.NoSuchElementException;

/**
 * A maker's bench of watches. The face below tests what it is given and throws; the classes inside
 * hold the works, and never throw.
 */
public final class HorologeBench {
    private static final int SECONDS_OF_HOUR = 3600;
    private static final int SECONDS_OF_DAY = 86400;
    private static final int MOST_OF_RATIO = 1000000;
    private static final int BARREL = 1;
    private static final int ESCAPE_WHEEL = 5;
    private static final int MOTION_WORK = 8;
    private static final int NO_CROWN = -1;
    private static final int WINDS = 0;
    private static final int SETS_DATE = 1;
    private static final int SETS_HANDS = 2;
    private static final int WORN_LOSES = 30;
    private static final int BENT_GAINS = 300;
    private static final int STRIKE_NEEDS = 2;
    private static final int CHRONOGRAPH_NEEDS = 3;
    private static final int ALARM_NEEDS = 1;

    private final Parts parts;
    private final Drive drive;
    private final Rates rates;
    private final Faults faults;
    private final Dial dial;
    private final Timer timer;
    private final Arbors arbors;
    private int crownPlace;
    private boolean hasSurprise;

    public HorologeBench() {
        parts = new Parts();
        drive = new Drive();
        rates = new Rates();
        faults = new Faults();
        dial = new Dial();
        timer = new Timer();
        arbors = new Arbors();
        crownPlace = NO_CROWN;
        hasSurprise = true;
    }

    // ---- trains

    public int stage(int teeth, int leaves) throws IllegalArgumentException, NoSuchElementException {
        needRange(teeth, 1, MOST_OF_RATIO);
        needRange(leaves, 1, MOST_OF_RATIO);
        int found = Trains.oneStage(teeth, leaves);
        if (found == 0) {
            throw new NoSuchElementException("no stage has this ratio");
        }
        return found;
    }

    public int train(int teeth, int leaves, int which)
            throws IllegalArgumentException, NoSuchElementException {
        needRange(teeth, 1, MOST_OF_RATIO);
        needRange(leaves, 1, MOST_OF_RATIO);
        needRange(which, 0, 3);
        long found = Trains.firstTrain(teeth, leaves);
        if (found == 0) {
            throw new NoSuchElementException("no train has this ratio");
        }
        return Trains.numberOf(found, which);
    }

    public int ratios() {
        return Trains.differentRatios();
    }

    // ---- parts

    public boolean putIn(int part)
            throws IndexOutOfBoundsException, UnsupportedOperationException, NoSuchElementException {
        needPart(part);
        if (parts.has(part)) {
            throw new UnsupportedOperationException("the part is in");
        }
        if (!parts.hasAllBelow(part)) {
            throw new NoSuchElementException("a part on which it rests is not in");
        }
        parts.put(part);
        return parts.areAllIn();
    }

    public int takeOut(int part)
            throws IndexOutOfBoundsException, UnsupportedOperationException, IllegalStateException {
        needPart(part);
        if (!parts.has(part)) {
            throw new UnsupportedOperationException("the part is not in");
        }
        if (parts.bears(part)) {
            throw new IllegalStateException("a part that rests on it is in");
        }
        parts.take(part);
        drive.letDown();
        return parts.howMany();
    }

    public boolean isIn(int part) throws IndexOutOfBoundsException {
        needPart(part);
        return parts.has(part);
    }

    public int lastIn(int back) throws NoSuchElementException {
        if (back < 0 || back >= parts.howMany()) {
            throw new NoSuchElementException("not so many parts are in");
        }
        return parts.fromLast(back);
    }

    public boolean isWhole() {
        return parts.areAllIn();
    }

    public char setEscapement(char kind) throws IllegalArgumentException, UnsupportedOperationException {
        needOneOf(kind == 'l' || kind == 'c' || kind == 'd');
        needOut(ESCAPE_WHEEL);
        return drive.chooseEscapement(kind);
    }

    public char setCalendar(char kind) throws IllegalArgumentException, UnsupportedOperationException {
        needOneOf(kind == 'p' || kind == 'a' || kind == 'q');
        needOut(MOTION_WORK);
        return dial.dates.choose(kind);
    }

    public char setStrike(char kind) throws IllegalArgumentException, UnsupportedOperationException {
        needOneOf(kind == 'r' || kind == 'w');
        needOut(MOTION_WORK);
        return dial.bell.choose(kind);
    }

    // ---- going

    public int wind(int turns) throws IllegalArgumentException, IllegalStateException {
        needRange(turns, 1, 8);
        needWhole();
        needCrown(WINDS);
        drive.windBy(turns);
        return drive.minutes;
    }

    public int force() {
        return drive.forceNow(faults.isDirty);
    }

    public boolean goes() {
        return parts.areAllIn() && crownPlace != SETS_HANDS && drive.canGo(faults.isDirty);
    }

    public boolean shock() {
        drive.takeShock();
        return goes();
    }

    public int setPosition(int rate) throws IllegalArgumentException {
        needRange(rate, -60, 60);
        int before = rates.position;
        rates.position = rate;
        return before;
    }

    public int setWarmth(int degrees) throws IllegalArgumentException {
        needRange(degrees, 0, 40);
        int before = rates.warmth;
        rates.warmth = degrees;
        return before;
    }

    public boolean setFault(char fault, boolean isThere) throws IllegalArgumentException {
        needOneOf(fault == 'w' || fault == 'd' || fault == 'b' || fault == 'm');
        boolean before = faults.change(fault, isThere);
        if (faults.isMispinned) {
            dial.bell.wasMispinned = true;
        }
        return before;
    }

    public int rate() {
        int rate = rates.inHour(force(), dial.hourOfDay());
        return faults.isWorn ? rate - WORN_LOSES : rate;
    }

    public int pass(int minutes) throws IllegalArgumentException {
        needRange(minutes, 1, 2000);
        int seconds = 0;
        // What stands as a minute begins stands in all later ones too.
        for (int gone = 0; gone < minutes && goes(); gone++) {
            seconds += goOneMinute();
        }
        return seconds;
    }

    public int explains(int seconds) {
        int clean = rates.withForce(drive.forceNow(false));
        int dirty = rates.withForce(drive.forceNow(true));
        int sum = 0;
        if (seconds == clean - WORN_LOSES) {
            sum += 1;
        }
        if (seconds == dirty) {
            sum += 2;
        }
        if (seconds == clean + BENT_GAINS) {
            sum += 4;
        }
        if (seconds == clean) {
            sum += 8;
        }
        return sum;
    }

    // ---- hands

    public int setHands(int minutes) throws IllegalArgumentException, IllegalStateException {
        needRange(minutes, -720, 720);
        needOneOf(minutes != 0);
        needWhole();
        needCrown(SETS_HANDS);
        if (minutes > 0) {
            dial.turnOn(60 * minutes, faults.isMispinned);
        } else {
            dial.turnBack(60 * -minutes);
        }
        return dial.time / 60;
    }

    public int shows(char hand) throws IllegalArgumentException {
        needOneOf(hand == 'h' || hand == 'm' || hand == 's' || hand == 'd');
        if (hand == 'h') {
            return dial.hourOfDay() % 12;
        }
        if (hand == 'm') {
            return dial.minuteShown(faults.isBent);
        }
        return hand == 's' ? dial.time % 60 : dial.time;
    }

    public int calendar(char what) throws IllegalArgumentException {
        needOneOf(what == 'd' || what == 'm' || what == 'y');
        if (what == 'd') {
            return dial.dates.day;
        }
        return what == 'm' ? dial.dates.month : dial.dates.year;
    }

    public int setDate(int day, int month, int year)
            throws IllegalArgumentException, UnsupportedOperationException, IllegalStateException {
        needRange(month, 1, 12);
        needRange(year, 0, 3);
        needRange(day, 1, dial.dates.lastDay(month, year));
        if (dial.hourOfDay() >= 21 || dial.hourOfDay() < 3) {
            throw new UnsupportedOperationException("the calendar is in gear at night");
        }
        needCrown(SETS_DATE);
        int before = dial.dates.day;
        dial.dates.put(day, month, year);
        return before;
    }

    public int strikes() {
        return dial.bell.blows;
    }

    public int lastStrike() throws NoSuchElementException {
        if (dial.bell.last == 0) {
            throw new NoSuchElementException("it never struck");
        }
        return dial.bell.last;
    }

    public int repeat() throws IllegalStateException {
        needWhole();
        int hours = 10000 * dial.hourStruck();
        if (!hasSurprise && dial.isFirstMinute()) {
            return hours + 314;
        }
        int minute = dial.minuteShown(faults.isBent);
        return hours + 100 * (minute / 15) + minute % 15;
    }

    public int setAlarm(int minute) throws IllegalArgumentException {
        needRange(minute, -1, 1439);
        int before = dial.alarm;
        dial.alarm = minute;
        return before;
    }

    public int rings() {
        return dial.rung;
    }

    public int push(char pusher)
            throws IllegalArgumentException, IllegalStateException, UnsupportedOperationException {
        needOneOf(pusher == 'a' || pusher == 'b' || pusher == 's');
        needWhole();
        if (pusher == 'b' && timer.barsFlyingBack()) {
            throw new UnsupportedOperationException("a cam bars flying back");
        }
        timer.obey(pusher);
        return timer.first;
    }

    public int chronograph(boolean isSecond) {
        return isSecond ? timer.secondShown() : timer.first;
    }

    // ---- springs, rates and crowns

    public boolean setFusee(boolean isThere) throws UnsupportedOperationException {
        needOut(BARREL);
        boolean before = drive.hasFusee;
        drive.hasFusee = isThere;
        return before;
    }

    public boolean setStopworks(boolean isThere) throws UnsupportedOperationException {
        needOut(BARREL);
        boolean before = drive.hasStopworks;
        drive.hasStopworks = isThere;
        return before;
    }

    public int reserve() {
        return parts.areAllIn() ? drive.minutesDownTo(drive.leastToGo(faults.isDirty)) : 0;
    }

    public int untilForce(int force) throws IllegalArgumentException {
        needRange(force, 1, 9);
        return drive.minutesDownTo(drive.leastFor(force, faults.isDirty));
    }

    public int setHourRate(int hour, int rate) throws IllegalArgumentException {
        needRange(hour, 0, 23);
        needRange(rate, -30, 30);
        return rates.changeHour(hour, rate);
    }

    public int setPoise(int error) throws IllegalArgumentException {
        needRange(error, -20, 20);
        int before = rates.poise;
        rates.poise = error;
        return before;
    }

    public int swing() {
        return goes() ? Rates.swingWith(force()) : 0;
    }

    public int crown(int place) throws IllegalArgumentException, IllegalStateException {
        needRange(place, NO_CROWN, SETS_HANDS);
        needWhole();
        int before = crownPlace;
        crownPlace = place;
        return before;
    }

    public int stopsFirst() throws IllegalStateException {
        needWhole();
        int already = allStoppedBy(force());
        if (already != 0) {
            return already;
        }
        // Nothing needs more than the chronograph, so what stops first stops as this one does.
        int least = drive.leastFor(CHRONOGRAPH_NEEDS, faults.isDirty);
        return allStoppedBy(drive.forceWith(least - 1, faults.isDirty));
    }

    // ---- moons, the sun and zones

    public char setMoon(char wheel) throws IllegalArgumentException, UnsupportedOperationException {
        needOneOf(wheel == '5' || wheel == '3');
        needOut(MOTION_WORK);
        return dial.sky.choose(wheel);
    }

    public int moon() {
        return dial.sky.age;
    }

    public int setMoonAge(int age) throws IllegalArgumentException {
        needRange(age, 0, dial.sky.timeRound() - 1);
        int before = dial.sky.age;
        dial.sky.age = age;
        return before;
    }

    public int moonError(int days) throws IllegalArgumentException {
        needRange(days, 0, 100000);
        return dial.sky.minutesAhead(days);
    }

    public int setEquation(int month, int minutes) throws IllegalArgumentException {
        needRange(month, 1, 12);
        needRange(minutes, -17, 17);
        return dial.sky.cutCam(month, minutes);
    }

    public int sunTime() {
        int ahead = 60 * dial.sky.camAt(dial.dates.month);
        return Math.floorMod(dial.time + ahead, SECONDS_OF_DAY);
    }

    public int firstSlip() {
        return dial.dates.firstWrongDay();
    }

    public int jumpZone(int hours) throws IllegalArgumentException, UnsupportedOperationException {
        needRange(hours, -3, 3);
        int ahead = dial.hoursAhead + hours;
        if (ahead > 14 || ahead < -12) {
            throw new UnsupportedOperationException("no zone is so far away");
        }
        dial.hoursAhead = ahead;
        return ahead;
    }

    public int zone(char what) throws IllegalArgumentException {
        needOneOf(what == 'h' || what == 'd' || what == 'm');
        int away = dial.time + SECONDS_OF_HOUR * dial.hoursAhead;
        if (what == 'h') {
            return Math.floorMod(away, SECONDS_OF_DAY) / SECONDS_OF_HOUR;
        }
        int days = Math.floorDiv(away, SECONDS_OF_DAY);
        return what == 'd' ? dial.dates.dayBeside(days) : dial.dates.monthBeside(days);
    }

    // ---- arbors

    public int addArbor() throws IllegalStateException {
        if (arbors.count >= Arbors.MOST) {
            throw new IllegalStateException("there are 16 arbors");
        }
        return arbors.add();
    }

    public int mesh(int driver, int teeth, int driven, int others)
            throws IndexOutOfBoundsException, IllegalArgumentException,
            UnsupportedOperationException, ArithmeticException {
        needArbor(driver);
        needArbor(driven);
        needRange(teeth, 6, 200);
        needRange(others, 6, 200);
        needFree(driven, driver, driver);
        arbors.join(driven, driver, -teeth, others);
        return settleJoined(driven);
    }

    public int fasten(int driver, int driven)
            throws IndexOutOfBoundsException, UnsupportedOperationException, ArithmeticException {
        needArbor(driver);
        needArbor(driven);
        needFree(driven, driver, driver);
        arbors.join(driven, driver, 1, 1);
        return settleJoined(driven);
    }

    public int differ(int one, int other, int driven)
            throws IndexOutOfBoundsException, UnsupportedOperationException, ArithmeticException {
        needArbor(one);
        needArbor(other);
        needArbor(driven);
        needFree(driven, one, other);
        arbors.joinBetween(driven, one, other);
        return settleJoined(driven);
    }

    public int loosen(int arbor)
            throws IndexOutOfBoundsException, UnsupportedOperationException, ArithmeticException {
        needArbor(arbor);
        if (!arbors.isDriven(arbor)) {
            throw new UnsupportedOperationException("nothing drives the arbor");
        }
        int driver = arbors.driver[arbor];
        arbors.driver[arbor] = Arbors.NOTHING;
        if (!arbors.settle()) {
            arbors.driver[arbor] = driver;
            throw new ArithmeticException("a number would be too great");
        }
        arbors.accept();
        return arbors.howManyDriven();
    }

    public int addStar(int arbor, int points)
            throws IndexOutOfBoundsException, IllegalArgumentException, IllegalStateException {
        needArbor(arbor);
        needRange(points, 4, 31);
        if (arbors.points[arbor] != 0) {
            throw new IllegalStateException("the arbor has a star");
        }
        return arbors.putStar(arbor, points);
    }

    public int turn(int turns, int parts)
            throws IllegalArgumentException, NoSuchElementException, ArithmeticException {
        needRange(turns, -1000, 1000);
        needRange(parts, 1, 1000);
        if (arbors.count == 0) {
            throw new NoSuchElementException("there is no arbor");
        }
        if (!arbors.settleTurned(turns, parts)) {
            throw new ArithmeticException("a number would be too great");
        }
        int moved = arbors.moveStars();
        arbors.accept();
        return moved;
    }

    public long turnsOf(int arbor, char part) throws IndexOutOfBoundsException, IllegalArgumentException {
        needArbor(arbor);
        needOneOf(part == 'n' || part == 'd');
        return part == 'n' ? arbors.upper[arbor] : arbors.lower[arbor];
    }

    public int star(int arbor) throws IndexOutOfBoundsException, NoSuchElementException {
        needArbor(arbor);
        if (arbors.points[arbor] == 0) {
            throw new NoSuchElementException("the arbor has no star");
        }
        return arbors.point[arbor];
    }

    public int trainWithin(int teeth, int leaves, int space)
            throws IllegalArgumentException, NoSuchElementException {
        needRange(teeth, 1, MOST_OF_RATIO);
        needRange(leaves, 1, MOST_OF_RATIO);
        needRange(space, 1, 300);
        int fewest = Trains.fewestInAll(teeth, leaves);
        if (fewest == 0 || fewest > space) {
            throw new NoSuchElementException("no train with this ratio is so small");
        }
        return fewest;
    }

    // ---- surprises and counters

    public boolean setSurprise(boolean isThere) throws UnsupportedOperationException {
        needOut(MOTION_WORK);
        boolean before = hasSurprise;
        hasSurprise = isThere;
        return before;
    }

    public char setChronograph(char kind) throws IllegalArgumentException, UnsupportedOperationException {
        needOneOf(kind == 'w' || kind == 'c');
        needOut(MOTION_WORK);
        char before = timer.kind;
        timer.kind = kind;
        return before;
    }

    public int counter(char what) throws IllegalArgumentException {
        needOneOf(what == 'm' || what == 'h');
        return what == 'm' ? timer.first / 60 % 30 : timer.first / SECONDS_OF_HOUR % 12;
    }

    // ---- figures

    public long turned() {
        return rates.turnedInAll;
    }

    public float fullness() {
        return (float) drive.minutes / (float) Drive.FULL;
    }

    public double meanGain() throws ArithmeticException {
        if (rates.minutesGone == 0) {
            throw new ArithmeticException("it never went");
        }
        return (double) (rates.turnedInAll - 60 * rates.minutesGone) / (double) rates.minutesGone;
    }

    public boolean isSound() {
        return parts.allRest() && rates.isTurnedRight() && dial.dates.isDayOfMonth()
                && dial.bell.isRackRight();
    }

    // ---- what several calls need

    private int goOneMinute() {
        int seconds = rates.goBy(rate());
        drive.useMinute();
        dial.turnOn(seconds, faults.isMispinned);
        timer.count(seconds);
        return seconds;
    }

    private int allStoppedBy(int force) {
        int sum = 0;
        if (force < STRIKE_NEEDS) {
            sum += 1;
        }
        if (force < CHRONOGRAPH_NEEDS) {
            sum += 2;
        }
        if (force < ALARM_NEEDS) {
            sum += 4;
        }
        if (force < drive.forceNeeded()) {
            sum += 8;
        }
        return sum;
    }

    private int settleJoined(int driven) throws ArithmeticException {
        if (!arbors.settle()) {
            arbors.driver[driven] = Arbors.NOTHING;
            throw new ArithmeticException("a number would be too great");
        }
        arbors.accept();
        return arbors.howManyDriven();
    }

    private static void needRange(int number, int least, int most) throws IllegalArgumentException {
        if (number < least || number > most) {
            throw new IllegalArgumentException("a number is out of range");
        }
    }

    private static void needOneOf(boolean isOne) throws IllegalArgumentException {
        if (!isOne) {
            throw new IllegalArgumentException("there is no such thing");
        }
    }

    private static void needPart(int part) throws IndexOutOfBoundsException {
        if (part < 0 || part >= Parts.ALL) {
            throw new IndexOutOfBoundsException("there is no such part");
        }
    }

    private void needOut(int part) throws UnsupportedOperationException {
        if (parts.has(part)) {
            throw new UnsupportedOperationException("a part that has to be out is in");
        }
    }

    private void needWhole() throws IllegalStateException {
        if (!parts.areAllIn()) {
            throw new IllegalStateException("not all parts are put in");
        }
    }

    private void needCrown(int place) throws IllegalStateException {
        if (crownPlace != NO_CROWN && crownPlace != place) {
            throw new IllegalStateException("the crown is in another place");
        }
    }

    private void needArbor(int arbor) throws IndexOutOfBoundsException {
        if (arbor < 0 || arbor >= arbors.count) {
            throw new IndexOutOfBoundsException("there is no such arbor");
        }
    }

    private void needFree(int driven, int one, int other) throws UnsupportedOperationException {
        if (driven == 0 || arbors.isDriven(driven)
                || arbors.leadsTo(driven, one) || arbors.leadsTo(driven, other)) {
            throw new UnsupportedOperationException("the arbor cannot be driven by it");
        }
    }

    /** Looks for wheels and pinions; a stage is told as 1000 times the teeth plus the leaves. */
    private static final class Trains {
        private static final int LEAST_TEETH = 8;
        private static final int MOST_TEETH = 120;
        private static final int LEAST_LEAVES = 6;
        private static final int MOST_LEAVES = 20;
        // Euclid's way needs fewer than a hundred steps for any two longs.
        private static final int MOST_STEPS = 200;

        /** The greatest divisor of both, at least 1, so that it can always divide. */
        static long divisorOf(long one, long other) {
            long great = Math.abs(one);
            long small = Math.abs(other);
            for (int step = 0; step < MOST_STEPS && small != 0; step++) {
                long left = great % small;
                great = small;
                small = left;
            }
            return great < 1 ? 1 : great;
        }

        /** The smallest stage with this ratio, 0 if there is none. */
        static int oneStage(long teeth, long leaves) {
            long divisor = divisorOf(teeth, leaves);
            long wheel = teeth / divisor;
            long pinion = leaves / divisor;
            if (wheel < 1 || wheel > MOST_TEETH || pinion < 1 || pinion > MOST_LEAVES) {
                return 0;
            }
            long forWheel = (LEAST_TEETH + wheel - 1) / wheel;
            long forPinion = (LEAST_LEAVES + pinion - 1) / pinion;
            long times = Math.max(forWheel, forPinion);
            if (times * wheel > MOST_TEETH || times * pinion > MOST_LEAVES) {
                return 0;
            }
            return (int) (1000 * times * wheel + times * pinion);
        }

        /** Both stages of the first train, the first one 1000000 times; 0 if there is none. */
        static long firstTrain(int teeth, int leaves) {
            for (int wheel = LEAST_TEETH; wheel <= MOST_TEETH; wheel++) {
                for (int pinion = LEAST_LEAVES; pinion <= MOST_LEAVES; pinion++) {
                    int second = secondStage(teeth, leaves, wheel, pinion);
                    if (second != 0) {
                        return 1000000L * (1000 * wheel + pinion) + second;
                    }
                }
            }
            return 0;
        }

        /** What the second stage has to be if the first one is known, 0 if it cannot be. */
        private static int secondStage(int teeth, int leaves, int wheel, int pinion) {
            return oneStage((long) teeth * pinion, (long) leaves * wheel);
        }

        static int numberOf(long train, int which) {
            int stage = (int) (which < 2 ? train / 1000000 : train % 1000000);
            return which % 2 == 0 ? stage / 1000 : stage % 1000;
        }

        /** The fewest teeth and leaves of a train, 0 if there is none. */
        static int fewestInAll(int teeth, int leaves) {
            int fewest = 0;
            for (int wheel = LEAST_TEETH; wheel <= MOST_TEETH; wheel++) {
                for (int pinion = LEAST_LEAVES; pinion <= MOST_LEAVES; pinion++) {
                    int second = secondStage(teeth, leaves, wheel, pinion);
                    int sum = wheel + pinion + second / 1000 + second % 1000;
                    if (second != 0 && (fewest == 0 || sum < fewest)) {
                        fewest = sum;
                    }
                }
            }
            return fewest;
        }

        static int differentRatios() {
            int different = 0;
            for (int wheel = LEAST_TEETH; wheel <= MOST_TEETH; wheel++) {
                for (int pinion = LEAST_LEAVES; pinion <= MOST_LEAVES; pinion++) {
                    // Each ratio counts once, at the smallest stage that has it.
                    if (oneStage(wheel, pinion) == 1000 * wheel + pinion) {
                        different++;
                    }
                }
            }
            return different;
        }
    }

    /** Which parts are in, and in which order they came. */
    private static final class Parts {
        static final int ALL = 10;
        // For each part those on which it rests, as bits.
        private static final int[] BELOW = {0, 1, 1, 5, 9, 17, 33, 65, 5, 256};

        private final int[] order;
        private int count;
        private int inside;

        Parts() {
            order = new int[ALL];
            count = 1;
            inside = 1;
        }

        int howMany() {
            return count;
        }

        boolean has(int part) {
            return (inside >> part & 1) == 1;
        }

        boolean areAllIn() {
            return count == ALL;
        }

        boolean hasAllBelow(int part) {
            return part >= 0 && part < ALL && (BELOW[part] & ~inside) == 0;
        }

        boolean bears(int part) {
            for (int above = 0; above < ALL; above++) {
                if (has(above) && (BELOW[above] >> part & 1) == 1) {
                    return true;
                }
            }
            return false;
        }

        void put(int part) {
            if (count < ALL) {
                order[count] = part;
                count++;
                inside |= 1 << part;
            }
        }

        void take(int part) {
            int kept = 0;
            for (int place = 0; place < count; place++) {
                if (order[place] != part) {
                    order[kept] = order[place];
                    kept++;
                }
            }
            count = kept;
            inside &= ~(1 << part);
        }

        int fromLast(int back) {
            return back >= 0 && back < count ? order[count - 1 - back] : 0;
        }

        boolean allRest() {
            for (int part = 0; part < ALL; part++) {
                if (has(part) && !hasAllBelow(part)) {
                    return false;
                }
            }
            return true;
        }
    }

    /** The spring and the escapement that it drives. */
    private static final class Drive {
        static final int FULL = 2880;
        private static final int STOPWORKS_END = 2520;
        private static final int STOPWORKS_LEAST = 360;
        private static final int TURN = 360;
        private static final int FUSEE_FORCE = 5;

        int minutes;
        boolean hasFusee;
        boolean hasStopworks;
        private char escapement;
        private boolean isStopped;

        Drive() {
            escapement = 'l';
        }

        void letDown() {
            minutes = 0;
        }

        void useMinute() {
            minutes = Math.max(0, minutes - 1);
        }

        void windBy(int turns) {
            int end = hasStopworks ? STOPWORKS_END : FULL;
            minutes = Math.min(end, minutes + TURN * turns);
            isStopped = false;
        }

        char chooseEscapement(char kind) {
            char before = escapement;
            escapement = kind;
            isStopped = false;
            return before;
        }

        void takeShock() {
            if (escapement == 'd') {
                isStopped = true;
            }
        }

        int forceNeeded() {
            if (escapement == 'l') {
                return 1;
            }
            return escapement == 'c' ? 2 : 3;
        }

        int forceWith(int left, boolean isDirty) {
            if (left <= 0) {
                return 0;
            }
            int clean = hasFusee ? FUSEE_FORCE : 1 + left / TURN;
            return isDirty ? clean - 1 : clean;
        }

        int forceNow(boolean isDirty) {
            return forceWith(minutes, isDirty);
        }

        boolean canGo(boolean isDirty) {
            return !isStopped && forceNow(isDirty) >= forceNeeded()
                    && (!hasStopworks || minutes >= STOPWORKS_LEAST);
        }

        /** With how many minutes at least there is this force; beyond the spring if never. */
        int leastFor(int force, boolean isDirty) {
            int clean = isDirty ? force + 1 : force;
            if (hasFusee) {
                return clean <= FUSEE_FORCE ? 1 : FULL + 1;
            }
            return Math.max(1, TURN * (clean - 1));
        }

        int leastToGo(boolean isDirty) {
            int least = leastFor(forceNeeded(), isDirty);
            return hasStopworks ? Math.max(STOPWORKS_LEAST, least) : least;
        }

        /** For how many minutes of going there are at least so many in the spring. */
        int minutesDownTo(int least) {
            return Math.max(0, minutes - least + 1);
        }
    }

    /** What makes the watch gain or lose, and what it has gained. */
    private static final class Rates {
        private static final int HOURS = 24;
        private static final int MINUTES_OF_DAY = 1440;
        private static final int BALANCED_SWING = 220;

        int position;
        int warmth;
        int poise;
        long turnedInAll;
        long minutesGone;
        private final int[] ofHours;
        private int rest;
        private long ratesInAll;

        Rates() {
            warmth = 20;
            ofHours = new int[HOURS];
        }

        static int swingWith(int force) {
            return 160 + 20 * force;
        }

        int changeHour(int hour, int rate) {
            if (hour < 0 || hour >= HOURS) {
                return 0;
            }
            int before = ofHours[hour];
            ofHours[hour] = rate;
            return before;
        }

        int withForce(int force) {
            return position + 3 * (force - 4) - 2 * (warmth - 20);
        }

        int inHour(int force, int hour) {
            int rate = withForce(force);
            if (hour >= 0 && hour < HOURS) {
                rate += ofHours[hour];
            }
            if (swingWith(force) < BALANCED_SWING) {
                rate += poise;
            }
            if (swingWith(force) > BALANCED_SWING) {
                rate -= poise;
            }
            return rate;
        }

        /** Goes for a minute with this rate, and tells by how many seconds the hands turn. */
        int goBy(int rate) {
            int gained = Math.floorDiv(rest + rate, MINUTES_OF_DAY);
            rest = rest + rate - MINUTES_OF_DAY * gained;
            ratesInAll += rate;
            minutesGone++;
            turnedInAll += 60 + gained;
            return 60 + gained;
        }

        boolean isTurnedRight() {
            return turnedInAll == 60 * minutesGone + Math.floorDiv(ratesInAll, (long) MINUTES_OF_DAY);
        }
    }

    /** What is wrong with the watch. */
    private static final class Faults {
        boolean isWorn;
        boolean isDirty;
        boolean isBent;
        boolean isMispinned;

        boolean change(char fault, boolean isThere) {
            boolean before;
            if (fault == 'w') {
                before = isWorn;
                isWorn = isThere;
            } else if (fault == 'd') {
                before = isDirty;
                isDirty = isThere;
            } else if (fault == 'b') {
                before = isBent;
                isBent = isThere;
            } else {
                before = isMispinned;
                isMispinned = isThere;
            }
            return before;
        }
    }

    /** The hands, and what they set going as they turn on. */
    private static final class Dial {
        int time;
        int alarm;
        int rung;
        int hoursAhead;
        final Dates dates;
        final Bell bell;
        final Sky sky;

        Dial() {
            alarm = -1;
            dates = new Dates();
            bell = new Bell();
            sky = new Sky();
        }

        int hourOfDay() {
            return time / SECONDS_OF_HOUR;
        }

        int hourStruck() {
            return Bell.onTwelve(hourOfDay());
        }

        boolean isFirstMinute() {
            return time % SECONDS_OF_HOUR < 60;
        }

        int minuteShown(boolean isBent) {
            int minute = time / 60 % 60;
            return isBent ? (minute + 5) % 60 : minute;
        }

        void turnBack(int seconds) {
            time = Math.floorMod(time - seconds, SECONDS_OF_DAY);
        }

        /** Turns the hands on, by less than a day. */
        void turnOn(int seconds, boolean isMispinned) {
            int end = time + seconds;
            for (int hour = hourOfDay() + 1; hour * SECONDS_OF_HOUR <= end; hour++) {
                bell.strikeHour(hour, isMispinned);
            }
            if (ringsUntil(end)) {
                rung++;
            }
            if (end >= SECONDS_OF_DAY) {
                end -= SECONDS_OF_DAY;
                dates.goOn();
                sky.grow();
            }
            time = end;
        }

        private boolean ringsUntil(int end) {
            if (alarm < 0) {
                return false;
            }
            int next = 60 * alarm;
            if (next <= time) {
                next += SECONDS_OF_DAY;
            }
            return next <= end;
        }
    }

    /** The calendar. */
    private static final class Dates {
        private static final int[] DAYS = {31, 28, 31, 30, 31, 30, 31, 31, 30, 31, 30, 31};
        private static final int LAST_LOOKED_AT = 150000;
        // So many months have more days than are looked at.
        private static final int MONTHS_LOOKED_AT = 5400;

        int day;
        int month;
        int year;
        private char kind;

        Dates() {
            kind = 'p';
            day = 1;
            month = 1;
        }

        char choose(char chosen) {
            char before = kind;
            kind = chosen;
            day = Math.min(day, lastDay(month, year));
            return before;
        }

        void put(int newDay, int newMonth, int newYear) {
            day = newDay;
            month = newMonth;
            year = newYear;
        }

        private static int trueLastDay(int ofMonth, boolean isLeap) {
            if (ofMonth < 1 || ofMonth > 12) {
                return 31;
            }
            return ofMonth == 2 && isLeap ? 29 : DAYS[ofMonth - 1];
        }

        int lastDay(int ofMonth, int ofYear) {
            if (kind == 'p') {
                return 31;
            }
            int last = trueLastDay(ofMonth, ofYear == 0);
            return kind == 'a' ? Math.max(30, last) : last;
        }

        void goOn() {
            int newMonth = monthBeside(1);
            day = dayBeside(1);
            if (newMonth < month) {
                year = (year + 1) % 4;
            }
            month = newMonth;
        }

        /** The day of the next date for 1, of the last one for -1, of this one for 0. */
        int dayBeside(int days) {
            if (days > 0) {
                return isLast() ? 1 : day + 1;
            }
            if (days == 0) {
                return day;
            }
            // Only February asks for the year, and it lies in the year of the month behind it.
            return day > 1 ? day - 1 : lastDay(monthBeside(-1), year);
        }

        int monthBeside(int days) {
            if (days > 0 && isLast()) {
                return month == 12 ? 1 : month + 1;
            }
            if (days < 0 && day == 1) {
                return month == 1 ? 12 : month - 1;
            }
            return month;
        }

        private boolean isLast() {
            return day >= lastDay(month, year);
        }

        boolean isDayOfMonth() {
            return day >= 1 && day <= lastDay(month, year);
        }

        /** Both go alike until a month has not as many days as it should. */
        int firstWrongDay() {
            int gone = 0;
            for (int months = 0; months < MONTHS_LOOKED_AT && gone <= LAST_LOOKED_AT; months++) {
                int ofMonth = months % 12 + 1;
                int ofYear = 2000 + months / 12;
                int shown = lastDay(ofMonth, ofYear % 4);
                int due = trueLastDay(ofMonth, isLeap(ofYear));
                gone += Math.min(shown, due);
                if (shown != due && gone <= LAST_LOOKED_AT) {
                    return gone;
                }
            }
            return -1;
        }

        private static boolean isLeap(int ofYear) {
            return ofYear % 4 == 0 && (ofYear % 100 != 0 || ofYear % 400 == 0);
        }
    }

    /** The strike, by a rack or a count wheel. */
    private static final class Bell {
        int blows;
        int last;
        boolean wasMispinned;
        private char kind;
        private int wheelPlace;
        private long rackBlows;
        private long rackDue;

        Bell() {
            kind = 'r';
            wheelPlace = 12;
        }

        static int onTwelve(int hour) {
            return hour % 12 == 0 ? 12 : hour % 12;
        }

        char choose(char chosen) {
            char before = kind;
            kind = chosen;
            return before;
        }

        void strikeHour(int hour, boolean isMispinned) {
            if (kind == 'w') {
                wheelPlace = wheelPlace % 12 + 1;
                last = wheelPlace;
            } else {
                last = onTwelve(hour) + (isMispinned ? 1 : 0);
                rackBlows += last;
                rackDue += onTwelve(hour);
            }
            blows += last;
        }

        boolean isRackRight() {
            return wasMispinned || rackBlows == rackDue;
        }
    }

    /** The moon and the sun, as the watch tells them. */
    private static final class Sky {
        private static final int PARTS_OF_DAY = 32;
        private static final int MINUTES_OF_PART = 45;
        private static final int MINUTES_ROUND = 42524;

        int age;
        private char wheel;
        private final int[] cam;

        Sky() {
            wheel = '5';
            cam = new int[12];
        }

        char choose(char chosen) {
            char before = wheel;
            wheel = chosen;
            age = 0;
            return before;
        }

        int timeRound() {
            return wheel == '5' ? 944 : 945;
        }

        void grow() {
            age = (age + PARTS_OF_DAY) % timeRound();
        }

        /** A turn of the wheel is a whole one of the sky's moon, however long it took. */
        int minutesAhead(int days) {
            long lead = MINUTES_ROUND - MINUTES_OF_PART * timeRound();
            return (int) Math.floorDiv(lead * PARTS_OF_DAY * days, (long) timeRound());
        }

        int camAt(int month) {
            return month >= 1 && month <= 12 ? cam[month - 1] : 0;
        }

        int cutCam(int month, int minutes) {
            int before = camAt(month);
            if (month >= 1 && month <= 12) {
                cam[month - 1] = minutes;
            }
            return before;
        }
    }

    /** The chronograph. */
    private static final class Timer {
        char kind;
        int first;
        private boolean isRunning;
        private boolean isSplit;
        private int second;

        Timer() {
            kind = 'w';
        }

        boolean barsFlyingBack() {
            return isRunning && kind == 'c';
        }

        void obey(char pusher) {
            if (pusher == 'a') {
                isRunning = !isRunning;
            } else if (pusher == 'b') {
                first = 0;
                isSplit = false;
            } else {
                second = first;
                isSplit = !isSplit;
            }
        }

        int secondShown() {
            return isSplit ? second : first;
        }

        void count(int seconds) {
            if (isRunning) {
                first += seconds;
            }
        }
    }

    /**
     * Arbors, what drives them, and stars. Turns are held shortened; those that a change would give
     * are worked out beside them, so that nothing has changed if a number is too great.
     */
    private static final class Arbors {
        static final int MOST = 16;
        static final int NOTHING = -1;
        private static final long GREATEST = 1000000000L;

        int count;
        final int[] driver;
        final long[] upper;
        final long[] lower;
        final int[] points;
        final int[] point;
        private int stars;
        // The same as the driver, but for a differential.
        private final int[] otherDriver;
        private final int[] teeth;
        private final int[] others;
        private final boolean[] isBetween;
        private final long[] nextUpper;
        private final long[] nextLower;

        Arbors() {
            driver = new int[MOST];
            otherDriver = new int[MOST];
            teeth = new int[MOST];
            others = new int[MOST];
            isBetween = new boolean[MOST];
            upper = new long[MOST];
            lower = new long[MOST];
            nextUpper = new long[MOST];
            nextLower = new long[MOST];
            points = new int[MOST];
            point = new int[MOST];
        }

        int add() {
            if (count >= MOST) {
                return NOTHING;
            }
            driver[count] = NOTHING;
            lower[count] = 1;
            count++;
            return count - 1;
        }

        boolean isDriven(int arbor) {
            return arbor >= 0 && arbor < count && driver[arbor] != NOTHING;
        }

        int howManyDriven() {
            int driven = 0;
            for (int arbor = 0; arbor < count; arbor++) {
                if (isDriven(arbor)) {
                    driven++;
                }
            }
            return driven;
        }

        /** Whether one arbor is the other one, or drives it, perhaps over others. */
        boolean leadsTo(int from, int to) {
            int reached = 1 << from;
            for (int round = 0; round < count; round++) {
                for (int arbor = 0; arbor < count; arbor++) {
                    if (isDriven(arbor) && (holds(reached, driver[arbor])
                            || holds(reached, otherDriver[arbor]))) {
                        reached |= 1 << arbor;
                    }
                }
            }
            return holds(reached, to);
        }

        private static boolean holds(int bits, int arbor) {
            return (bits >> arbor & 1) == 1;
        }

        /** Teeth less than 0 turn the arbor against its driver. */
        void join(int driven, int one, int itsTeeth, int teethOfDriven) {
            if (driven < 0 || driven >= count) {
                return;
            }
            driver[driven] = one;
            otherDriver[driven] = one;
            teeth[driven] = itsTeeth;
            others[driven] = teethOfDriven;
            isBetween[driven] = false;
        }

        void joinBetween(int driven, int one, int other) {
            if (driven < 0 || driven >= count) {
                return;
            }
            driver[driven] = one;
            otherDriver[driven] = other;
            isBetween[driven] = true;
        }

        int putStar(int arbor, int itsPoints) {
            if (arbor >= 0 && arbor < count) {
                points[arbor] = itsPoints;
                point[arbor] = 0;
                stars++;
            }
            return stars;
        }

        boolean settle() {
            return settleFrom(upper[0], lower[0]);
        }

        boolean settleTurned(int turns, int parts) {
            return settleFrom(upper[0] * parts + turns * lower[0], lower[0] * parts);
        }

        /** Works out how far all are turned if the first one is; false if a number is too great. */
        private boolean settleFrom(long firstUpper, long firstLower) {
            int known = 0;
            for (int arbor = 0; arbor < count; arbor++) {
                if (!isDriven(arbor)) {
                    known |= 1 << arbor;
                    keep(arbor, 0, 1);
                }
            }
            if (!keep(0, firstUpper, firstLower)) {
                return false;
            }
            // In each round, at least one arbor is reached whose drivers are known.
            for (int round = 0; round < count; round++) {
                for (int arbor = 0; arbor < count; arbor++) {
                    if (!holds(known, arbor) && holds(known, driver[arbor])
                            && holds(known, otherDriver[arbor])) {
                        known |= 1 << arbor;
                        if (!follow(arbor)) {
                            return false;
                        }
                    }
                }
            }
            return true;
        }

        private boolean follow(int arbor) {
            int one = driver[arbor];
            int other = otherDriver[arbor];
            if (one < 0 || one >= count || other < 0 || other >= count) {
                return false;
            }
            if (isBetween[arbor]) {
                long sum = nextUpper[one] * nextLower[other] + nextUpper[other] * nextLower[one];
                return keep(arbor, sum, 2 * nextLower[one] * nextLower[other]);
            }
            return keep(arbor, nextUpper[one] * teeth[arbor], nextLower[one] * others[arbor]);
        }

        /** Keeps a fraction, shortened; false if it has a number that is too great. */
        private boolean keep(int arbor, long above, long below) {
            long divisor = Trains.divisorOf(above, below);
            nextUpper[arbor] = above / divisor;
            nextLower[arbor] = below / divisor;
            return Math.abs(nextUpper[arbor]) <= GREATEST && nextLower[arbor] <= GREATEST;
        }

        /** Moves the stars from the turns that are to those that will be. */
        int moveStars() {
            int moved = 0;
            for (int arbor = 0; arbor < count; arbor++) {
                long steps = wholeTurns(nextUpper[arbor], nextLower[arbor])
                        - wholeTurns(upper[arbor], lower[arbor]);
                if (points[arbor] > 0 && steps != 0) {
                    point[arbor] = (int) Math.floorMod(point[arbor] + steps, (long) points[arbor]);
                    moved++;
                }
            }
            return moved;
        }

        private static long wholeTurns(long above, long below) {
            return below > 0 ? Math.floorDiv(above, below) : 0;
        }

        void accept() {
            System.arraycopy(nextUpper, 0, upper, 0, MOST);
            System.arraycopy(nextLower, 0, lower, 0, MOST);
        }
    }
}
