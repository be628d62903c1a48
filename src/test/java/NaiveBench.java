import java.math.BigInteger;
import java.time.LocalDate;
import java.util.ArrayList;
import java.util.HashSet;
import java.util.List;
import java.util.NoSuchElementException;
import java.util.Set;

/**
 * The same bench once more, in the slowest and plainest way that the document's words allow: second
 * by second, number by number. RandomRunsTest holds the class against it.
 */
public final class NaiveBench {
    private final List<Integer> parts = new ArrayList<>(List.of(0));
    private int spring, position, warmth = 20, poise, time, alarm = -1, rings, blows, last;
    private int day = 1, month = 1, year, wheelPlace = 12, crown = -1, age, zone;
    private int first, second;
    private long rest, turned, went;
    private char escapement = 'l', calendar = 'p', strike = 'r', moon = '5', chrono = 'w';
    private boolean fusee, stopworks, shocked, worn, dirty, bent, mispinned, surprise = true;
    private boolean runs, split;
    private final int[] hourRates = new int[24], cam = new int[13];
    private final List<Arbor> arbors = new ArrayList<>();
    private BigInteger handN = BigInteger.ZERO, handD = BigInteger.ONE;

    private static final class Arbor {
        char joined = '-';
        int one, other, teeth, others, points, point;
    }

    private static void argue(boolean good) {
        if (!good) {
            throw new IllegalArgumentException();
        }
    }

    private static void state(boolean good) {
        if (!good) {
            throw new IllegalStateException();
        }
    }

    private static void support(boolean good) {
        if (!good) {
            throw new UnsupportedOperationException();
        }
    }

    private static void index(boolean good) {
        if (!good) {
            throw new IndexOutOfBoundsException();
        }
    }

    private static void exist(boolean good) {
        if (!good) {
            throw new NoSuchElementException();
        }
    }

    public int stage(int teeth, int leaves) {
        argue(teeth >= 1 && teeth <= 1000000 && leaves >= 1 && leaves <= 1000000);
        for (int t = 8; t <= 120; t++) {
            for (int l = 6; l <= 20; l++) {
                if ((long) t * leaves == (long) l * teeth) {
                    return 1000 * t + l;
                }
            }
        }
        throw new NoSuchElementException();
    }

    private static int[] trainOf(int teeth, int leaves, boolean small) {
        int[] best = null;
        int bestSum = Integer.MAX_VALUE;
        for (int a = 8; a <= 120; a++) {
            for (int b = 6; b <= 20; b++) {
                for (int c = 8; c <= 120; c++) {
                    long top = (long) a * c * leaves;
                    long bottom = (long) b * teeth;
                    long d = top / bottom;
                    if (top % bottom != 0 || d < 6 || d > 20) {
                        continue;
                    }
                    int[] found = {a, b, c, (int) d};
                    if (!small) {
                        return found;
                    }
                    if (a + b + c + d < bestSum) {
                        bestSum = a + b + c + (int) d;
                        best = found;
                    }
                }
            }
        }
        exist(best != null);
        return best;
    }

    public int train(int teeth, int leaves, int which) {
        argue(teeth >= 1 && teeth <= 1000000 && leaves >= 1 && leaves <= 1000000);
        argue(which >= 0 && which <= 3);
        return trainOf(teeth, leaves, false)[which];
    }

    public int trainWithin(int teeth, int leaves, int space) {
        argue(teeth >= 1 && teeth <= 1000000 && leaves >= 1 && leaves <= 1000000);
        argue(space >= 1 && space <= 300);
        int[] t = trainOf(teeth, leaves, true);
        int sum = t[0] + t[1] + t[2] + t[3];
        exist(sum <= space);
        return sum;
    }

    public int ratios() {
        Set<Long> all = new HashSet<>();
        for (int t = 8; t <= 120; t++) {
            for (int l = 6; l <= 20; l++) {
                // 232792560 is divided by every number up to 20.
                all.add(232792560L / l * t);
            }
        }
        return all.size();
    }

    private static int[] below(int part) {
        int[][] rests = {{}, {0}, {0}, {0, 2}, {0, 3}, {0, 4}, {0, 5}, {0, 6}, {0, 2}, {8}};
        return rests[part];
    }

    public boolean putIn(int part) {
        index(part >= 0 && part <= 9);
        support(!parts.contains(part));
        for (int under : below(part)) {
            exist(parts.contains(under));
        }
        parts.add(part);
        return isWhole();
    }

    public int takeOut(int part) {
        index(part >= 0 && part <= 9);
        support(parts.contains(part));
        for (int above : parts) {
            for (int under : below(above)) {
                state(under != part);
            }
        }
        parts.remove((Integer) part);
        spring = 0;
        return parts.size();
    }

    public boolean isIn(int part) {
        index(part >= 0 && part <= 9);
        return parts.contains(part);
    }

    public int lastIn(int back) {
        exist(back >= 0 && back < parts.size());
        return parts.get(parts.size() - 1 - back);
    }

    public boolean isWhole() {
        return parts.size() == 10;
    }

    public char setEscapement(char kind) {
        argue("lcd".indexOf(kind) >= 0);
        support(!parts.contains(5));
        char before = escapement;
        escapement = kind;
        shocked = false;
        return before;
    }

    public char setCalendar(char kind) {
        argue("paq".indexOf(kind) >= 0);
        support(!parts.contains(8));
        char before = calendar;
        calendar = kind;
        while (day > lastDay(month, year)) {
            day--;
        }
        return before;
    }

    public char setStrike(char kind) {
        argue("rw".indexOf(kind) >= 0);
        support(!parts.contains(8));
        char before = strike;
        strike = kind;
        return before;
    }

    public int wind(int turns) {
        argue(turns >= 1 && turns <= 8);
        state(isWhole() && (crown == -1 || crown == 0));
        for (int i = 0; i < turns * 360; i++) {
            if (spring < (stopworks ? 2520 : 2880)) {
                spring++;
            }
        }
        shocked = false;
        return spring;
    }

    private int forceAt(int minutes, boolean isDirty) {
        int force = minutes == 0 ? 0 : fusee ? 5 : 1 + minutes / 360;
        return minutes > 0 && isDirty ? force - 1 : force;
    }

    private int need() {
        return "lcd".indexOf(escapement) + 1;
    }

    private boolean goesAt(int minutes) {
        return isWhole() && forceAt(minutes, dirty) >= need() && (!stopworks || minutes >= 360);
    }

    public int force() {
        return forceAt(spring, dirty);
    }

    public boolean goes() {
        return goesAt(spring) && !shocked && crown != 2;
    }

    public boolean shock() {
        shocked = shocked || escapement == 'd';
        return goes();
    }

    public int setPosition(int rate) {
        argue(rate >= -60 && rate <= 60);
        int before = position;
        position = rate;
        return before;
    }

    public int setWarmth(int degrees) {
        argue(degrees >= 0 && degrees <= 40);
        int before = warmth;
        warmth = degrees;
        return before;
    }

    public boolean setFault(char fault, boolean isThere) {
        argue("wdbm".indexOf(fault) >= 0);
        boolean before;
        switch (fault) {
            case 'w':
                before = worn;
                worn = isThere;
                return before;
            case 'd':
                before = dirty;
                dirty = isThere;
                return before;
            case 'b':
                before = bent;
                bent = isThere;
                return before;
            default:
                before = mispinned;
                mispinned = isThere;
                return before;
        }
    }

    private int steady(boolean isDirty) {
        int rate = position;
        for (int f = forceAt(spring, isDirty); f > 4; f--) {
            rate += 3;
        }
        for (int f = forceAt(spring, isDirty); f < 4; f++) {
            rate -= 3;
        }
        for (int w = warmth; w > 20; w--) {
            rate -= 2;
        }
        for (int w = warmth; w < 20; w++) {
            rate += 2;
        }
        return rate;
    }

    public int rate() {
        int rate = steady(dirty) + hourRates[time / 3600];
        if (worn) {
            rate -= 30;
        }
        int swing = 160 + 20 * force();
        return swing < 220 ? rate + poise : swing > 220 ? rate - poise : rate;
    }

    private void second(int seconds) {
        for (int i = 0; i < seconds; i++) {
            time++;
            if (time == 86400) {
                time = 0;
                nextDay();
            }
            if (time % 3600 == 0) {
                int hour = time / 3600 % 12 == 0 ? 12 : time / 3600 % 12;
                if (strike == 'r') {
                    last = hour + (mispinned ? 1 : 0);
                } else {
                    wheelPlace = wheelPlace == 12 ? 1 : wheelPlace + 1;
                    last = wheelPlace;
                }
                blows += last;
            }
            if (alarm >= 0 && time == alarm * 60) {
                rings++;
            }
        }
    }

    public int pass(int minutes) {
        argue(minutes >= 1 && minutes <= 2000);
        int sum = 0;
        for (int i = 0; i < minutes; i++) {
            if (!goes()) {
                continue;
            }
            rest += rate();
            int seconds = 60;
            while (rest >= 1440) {
                rest -= 1440;
                seconds++;
            }
            while (rest < 0) {
                rest += 1440;
                seconds--;
            }
            spring--;
            second(seconds);
            if (runs) {
                first += seconds;
            }
            sum += seconds;
            went++;
        }
        turned += sum;
        return sum;
    }

    public int explains(int seconds) {
        int sum = 0;
        sum += steady(false) - 30 == seconds ? 1 : 0;
        sum += steady(true) == seconds ? 2 : 0;
        sum += steady(false) + 300 == seconds ? 4 : 0;
        sum += steady(false) == seconds ? 8 : 0;
        return sum;
    }

    public int setHands(int minutes) {
        argue(minutes >= -720 && minutes <= 720 && minutes != 0);
        state(isWhole() && (crown == -1 || crown == 2));
        if (minutes > 0) {
            second(60 * minutes);
        }
        for (int i = 0; i > 60 * minutes; i--) {
            time = time == 0 ? 86399 : time - 1;
        }
        return time / 60;
    }

    private int minuteShown() {
        int minute = time % 3600 / 60;
        for (int i = 0; bent && i < 5; i++) {
            minute = minute == 59 ? 0 : minute + 1;
        }
        return minute;
    }

    public int shows(char hand) {
        switch (hand) {
            case 'h':
                return time / 3600 % 12;
            case 'm':
                return minuteShown();
            case 's':
                return time % 60;
            case 'd':
                return time;
            default:
                throw new IllegalArgumentException();
        }
    }

    public int calendar(char what) {
        argue("dmy".indexOf(what) >= 0);
        return what == 'd' ? day : what == 'm' ? month : year;
    }

    private int lastDay(int m, int y) {
        boolean isShort = m == 4 || m == 6 || m == 9 || m == 11;
        switch (calendar) {
            case 'p':
                return 31;
            case 'a':
                return isShort || m == 2 ? 30 : 31;
            default:
                return m == 2 ? (y == 0 ? 29 : 28) : isShort ? 30 : 31;
        }
    }

    private void nextDay() {
        day++;
        if (day > lastDay(month, year)) {
            day = 1;
            month++;
        }
        if (month > 12) {
            month = 1;
            year++;
        }
        if (year > 3) {
            year = 0;
        }
        age += 32;
        if (age >= round()) {
            age -= round();
        }
    }

    public int setDate(int newDay, int newMonth, int newYear) {
        argue(newMonth >= 1 && newMonth <= 12 && newYear >= 0 && newYear <= 3);
        argue(newDay >= 1 && newDay <= lastDay(newMonth, newYear));
        support(time < 21 * 3600 && time >= 3 * 3600);
        state(crown == -1 || crown == 1);
        int before = day;
        day = newDay;
        month = newMonth;
        year = newYear;
        return before;
    }

    public int strikes() {
        return blows;
    }

    public int lastStrike() {
        exist(blows > 0);
        return last;
    }

    public int repeat() {
        state(isWhole());
        int hour = time / 3600 % 12 == 0 ? 12 : time / 3600 % 12;
        if (!surprise && time % 3600 / 60 == 0) {
            return hour * 10000 + 300 + 14;
        }
        return hour * 10000 + minuteShown() / 15 * 100 + minuteShown() % 15;
    }

    public int setAlarm(int minute) {
        argue(minute >= -1 && minute <= 1439);
        int before = alarm;
        alarm = minute;
        return before;
    }

    public int rings() {
        return rings;
    }

    public int push(char pusher) {
        argue("abs".indexOf(pusher) >= 0);
        state(isWhole());
        support(!(pusher == 'b' && runs && chrono == 'c'));
        switch (pusher) {
            case 'a':
                runs = !runs;
                break;
            case 'b':
                first = 0;
                split = false;
                break;
            default:
                split = !split;
                second = first;
        }
        return first;
    }

    public int chronograph(boolean isSecond) {
        return isSecond && split ? second : first;
    }

    public boolean setFusee(boolean isThere) {
        support(!parts.contains(1));
        boolean before = fusee;
        fusee = isThere;
        return before;
    }

    public boolean setStopworks(boolean isThere) {
        support(!parts.contains(1));
        boolean before = stopworks;
        stopworks = isThere;
        return before;
    }

    public int reserve() {
        int minutes = 0;
        while (goesAt(spring - minutes)) {
            minutes++;
        }
        return minutes;
    }

    public int untilForce(int force) {
        argue(force >= 1 && force <= 9);
        int minutes = 0;
        while (minutes < spring && forceAt(spring - minutes, dirty) >= force) {
            minutes++;
        }
        return minutes;
    }

    public int setHourRate(int hour, int rate) {
        argue(hour >= 0 && hour <= 23 && rate >= -30 && rate <= 30);
        int before = hourRates[hour];
        hourRates[hour] = rate;
        return before;
    }

    public int setPoise(int error) {
        argue(error >= -20 && error <= 20);
        int before = poise;
        poise = error;
        return before;
    }

    public int swing() {
        return goes() ? 160 + 20 * force() : 0;
    }

    public int crown(int place) {
        argue(place >= -1 && place <= 2);
        state(isWhole());
        int before = crown;
        crown = place;
        return before;
    }

    public int stopsFirst() {
        state(isWhole());
        for (int minutes = spring; minutes >= 0; minutes--) {
            int force = forceAt(minutes, dirty);
            int sum = (force < 2 ? 1 : 0) + (force < 3 ? 2 : 0) + (force < 1 ? 4 : 0)
                    + (force < need() ? 8 : 0);
            if (sum > 0) {
                return sum;
            }
        }
        return 0;
    }

    private int round() {
        return moon == '5' ? 29 * 32 + 16 : 29 * 32 + 17;
    }

    public char setMoon(char wheel) {
        argue("53".indexOf(wheel) >= 0);
        support(!parts.contains(8));
        char before = moon;
        moon = wheel;
        age = 0;
        return before;
    }

    public int moon() {
        return age;
    }

    public int setMoonAge(int newAge) {
        argue(newAge >= 0 && newAge < round());
        int before = age;
        age = newAge;
        return before;
    }

    public int moonError(int days) {
        argue(days >= 0 && days <= 100000);
        // Turns of the wheel less those of the sky, over the common denominator.
        BigInteger gone = BigInteger.valueOf(1440L * days);
        BigInteger wheel = BigInteger.valueOf(round() * 45L);
        BigInteger sky = BigInteger.valueOf(42524);
        BigInteger above = gone.multiply(sky).subtract(gone.multiply(wheel)).multiply(sky);
        BigInteger[] parts = above.divideAndRemainder(wheel.multiply(sky));
        int whole = parts[0].intValueExact();
        return parts[1].signum() < 0 ? whole - 1 : whole;
    }

    public int setEquation(int ofMonth, int minutes) {
        argue(ofMonth >= 1 && ofMonth <= 12 && minutes >= -17 && minutes <= 17);
        int before = cam[ofMonth];
        cam[ofMonth] = minutes;
        return before;
    }

    public int sunTime() {
        return (time + 60 * cam[month] + 86400) % 86400;
    }

    public int firstSlip() {
        int d = 1;
        int m = 1;
        int y = 0;
        LocalDate date = LocalDate.of(2000, 1, 1);
        for (int days = 0; days <= 150000; days++) {
            if (date.getDayOfMonth() != d || date.getMonthValue() != m || date.getYear() % 4 != y) {
                return days;
            }
            date = date.plusDays(1);
            d++;
            if (d > lastDay(m, y)) {
                d = 1;
                m++;
            }
            if (m > 12) {
                m = 1;
                y = (y + 1) % 4;
            }
        }
        return -1;
    }

    public int jumpZone(int hours) {
        argue(hours >= -3 && hours <= 3);
        support(zone + hours <= 14 && zone + hours >= -12);
        zone += hours;
        return zone;
    }

    public int zone(char what) {
        argue("hdm".indexOf(what) >= 0);
        int hour = time / 3600 + zone;
        int d = day;
        int m = month;
        if (hour >= 24) {
            d++;
            if (d > lastDay(m, year)) {
                d = 1;
                m = m == 12 ? 1 : m + 1;
            }
        } else if (hour < 0) {
            d--;
            if (d == 0) {
                int y = m == 1 ? (year == 0 ? 3 : year - 1) : year;
                m = m == 1 ? 12 : m - 1;
                d = lastDay(m, y);
            }
        }
        return what == 'h' ? (hour + 24) % 24 : what == 'd' ? d : m;
    }

    public int addArbor() {
        state(arbors.size() < 16);
        arbors.add(new Arbor());
        return arbors.size() - 1;
    }

    private boolean thereIs(int arbor) {
        return arbor >= 0 && arbor < arbors.size();
    }

    private boolean leads(int from, int to) {
        if (from == to) {
            return true;
        }
        Arbor arbor = arbors.get(to);
        return arbor.joined != '-' && (leads(from, arbor.one) || leads(from, arbor.other));
    }

    private void free(int driven, int one, int other) {
        support(arbors.get(driven).joined == '-' && driven != 0);
        support(!leads(driven, one) && !leads(driven, other));
    }

    private BigInteger[] shorten(BigInteger n, BigInteger d) {
        BigInteger g = n.gcd(d);
        return new BigInteger[] {n.divide(g), d.divide(g)};
    }

    private BigInteger[] turnsOf(int arbor) {
        Arbor a = arbors.get(arbor);
        if (arbor == 0) {
            return shorten(handN, handD);
        }
        if (a.joined == '-') {
            return new BigInteger[] {BigInteger.ZERO, BigInteger.ONE};
        }
        BigInteger[] x = turnsOf(a.one);
        BigInteger[] y = turnsOf(a.other);
        if (a.joined == 'm') {
            return shorten(x[0].multiply(BigInteger.valueOf(-a.teeth)),
                    x[1].multiply(BigInteger.valueOf(a.others)));
        }
        return shorten(x[0].multiply(y[1]).add(y[0].multiply(x[1])),
                x[1].multiply(y[1]).multiply(BigInteger.TWO));
    }

    private boolean fits() {
        BigInteger most = BigInteger.valueOf(1000000000);
        for (int i = 0; i < arbors.size(); i++) {
            BigInteger[] t = turnsOf(i);
            if (t[0].abs().compareTo(most) > 0 || t[1].compareTo(most) > 0) {
                return false;
            }
        }
        return true;
    }

    private int driven() {
        int count = 0;
        for (Arbor arbor : arbors) {
            count += arbor.joined == '-' ? 0 : 1;
        }
        return count;
    }

    private int join(int driven, char how, int one, int other) {
        Arbor arbor = arbors.get(driven);
        arbor.joined = how;
        arbor.one = one;
        arbor.other = other;
        if (!fits()) {
            arbor.joined = '-';
            throw new ArithmeticException();
        }
        return driven();
    }

    public int mesh(int driver, int teeth, int driven, int others) {
        index(thereIs(driver) && thereIs(driven));
        argue(teeth >= 6 && teeth <= 200 && others >= 6 && others <= 200);
        free(driven, driver, driver);
        arbors.get(driven).teeth = teeth;
        arbors.get(driven).others = others;
        return join(driven, 'm', driver, driver);
    }

    public int fasten(int driver, int driven) {
        index(thereIs(driver) && thereIs(driven));
        free(driven, driver, driver);
        return join(driven, 'f', driver, driver);
    }

    public int differ(int one, int other, int driven) {
        index(thereIs(one) && thereIs(other) && thereIs(driven));
        free(driven, one, other);
        return join(driven, 'd', one, other);
    }

    public int loosen(int arbor) {
        index(thereIs(arbor));
        Arbor a = arbors.get(arbor);
        support(a.joined != '-');
        char before = a.joined;
        a.joined = '-';
        if (!fits()) {
            a.joined = before;
            throw new ArithmeticException();
        }
        return driven();
    }

    public int addStar(int arbor, int points) {
        index(thereIs(arbor));
        argue(points >= 4 && points <= 31);
        state(arbors.get(arbor).points == 0);
        arbors.get(arbor).points = points;
        int stars = 0;
        for (Arbor a : arbors) {
            stars += a.points > 0 ? 1 : 0;
        }
        return stars;
    }

    private long whole(int arbor) {
        BigInteger[] t = turnsOf(arbor);
        return Math.floorDiv(t[0].longValueExact(), t[1].longValueExact());
    }

    public int turn(int turns, int parts) {
        argue(turns >= -1000 && turns <= 1000 && parts >= 1 && parts <= 1000);
        exist(!arbors.isEmpty());
        long[] before = new long[16];
        for (int i = 0; i < arbors.size(); i++) {
            before[i] = whole(i);
        }
        BigInteger oldN = handN;
        BigInteger oldD = handD;
        handN = oldN.multiply(BigInteger.valueOf(parts)).add(oldD.multiply(BigInteger.valueOf(turns)));
        handD = oldD.multiply(BigInteger.valueOf(parts));
        if (!fits()) {
            handN = oldN;
            handD = oldD;
            throw new ArithmeticException();
        }
        int moved = 0;
        for (int i = 0; i < arbors.size(); i++) {
            Arbor a = arbors.get(i);
            long steps = whole(i) - before[i];
            if (a.points > 0 && steps != 0) {
                moved++;
                a.point = (int) (((a.point + steps) % a.points + a.points) % a.points);
            }
        }
        return moved;
    }

    public long turnsOf(int arbor, char part) {
        index(thereIs(arbor));
        argue(part == 'n' || part == 'd');
        return turnsOf(arbor)[part == 'n' ? 0 : 1].longValueExact();
    }

    public int star(int arbor) {
        index(thereIs(arbor));
        exist(arbors.get(arbor).points > 0);
        return arbors.get(arbor).point;
    }

    public boolean setSurprise(boolean isThere) {
        support(!parts.contains(8));
        boolean before = surprise;
        surprise = isThere;
        return before;
    }

    public char setChronograph(char kind) {
        argue(kind == 'w' || kind == 'c');
        support(!parts.contains(8));
        char before = chrono;
        chrono = kind;
        return before;
    }

    public int counter(char what) {
        argue(what == 'm' || what == 'h');
        return what == 'm' ? first / 60 % 30 : first / 3600 % 12;
    }

    public long turned() {
        return turned;
    }

    public float fullness() {
        return spring / 2880f;
    }

    public double meanGain() {
        if (went == 0) {
            throw new ArithmeticException();
        }
        return (double) (turned - 60 * went) / (double) went;
    }

    public boolean isSound() {
        return true;
    }
}
