public final class CalendarRules {
    public static final int BAD_DAY = -1;
    public static final int BAD_NUMBER = -2;
    public static final int FULL = -3;
    public static final int NONE = -4;

    private static final int DAYS = 7305;
    private static final int LAST_DAY = 7304;
    private static final int FIRST_YEAR = 2000;
    private static final int LAST_YEAR = 2019;
    private static final int MONTHS = 240;
    private static final int MONTH_BOUNDS = 241;

    // Day 0 is a Saturday, so its week began this many days before it.
    private static final int DAY_0_WEEKDAY = 5;

    private static final int DAILY = 0;
    private static final int WEEKLY = 1;
    private static final int MONTHLY = 2;
    private static final int YEARLY = 3;

    private static final int MONTH_BITS = 0x1FFE;
    private static final int MONTH_DAY_BITS = ~1;
    private static final int WEEKDAY_BITS = 0x7F;

    private static final int MAX_INTERVAL = 20;
    private static final int MAX_ORDINAL = 5;
    private static final int MAX_POSITION = 10;
    private static final int MAX_COUNT = 500;
    private static final int MAX_SAID = 12;

    private static final int INCLUDED = 1;
    private static final int EXCLUDED = 2;
    private static final int NEITHER = 0;

    // Months are held as 0 to 239, counted from January 2000; the bound behind the last one is its end.
    private final int[] monthFirstDay = new int[MONTH_BOUNDS];
    private final int[] monthOfDay = new int[DAYS];

    // Kept up to date by every call that changes the rule, so that the calls that ask change nothing.
    private final boolean[] inSeries = new boolean[DAYS];
    private final byte[] said = new byte[DAYS];
    private int saidCount;

    private int startDay;
    private int period;
    private int step;
    private int monthSet;
    private int monthDaySet;
    private int lastDaySet;
    private int weekdaySet;
    private int weekdayOrdinal;
    private int keptPosition;
    private int maxCount;
    private int endDay;

    public CalendarRules() {
        layOutMonths();
        resetRule();
        buildSeries();
    }

    public int start(int day) {
        if (!isDay(day)) {
            return BAD_DAY;
        }
        startDay = day;
        buildSeries();
        return weekdayOf(day);
    }

    public int frequency(int frequency, int interval) {
        if (frequency < DAILY || frequency > YEARLY || interval < 1 || interval > MAX_INTERVAL) {
            return BAD_NUMBER;
        }
        period = frequency;
        step = interval;
        buildSeries();
        return 0;
    }

    public int months(int set) {
        monthSet = set & MONTH_BITS;
        buildSeries();
        return countBits(monthSet);
    }

    public int monthDays(int days, int lastDays) {
        monthDaySet = days & MONTH_DAY_BITS;
        lastDaySet = lastDays & MONTH_DAY_BITS;
        buildSeries();
        return countBits(monthDaySet) + countBits(lastDaySet);
    }

    public int weekDays(int set, int ordinal) {
        if (ordinal < -MAX_ORDINAL || ordinal > MAX_ORDINAL) {
            return BAD_NUMBER;
        }
        weekdaySet = set & WEEKDAY_BITS;
        weekdayOrdinal = ordinal;
        buildSeries();
        return countBits(weekdaySet);
    }

    public int position(int p) {
        if (p < -MAX_POSITION || p > MAX_POSITION) {
            return BAD_NUMBER;
        }
        keptPosition = p;
        buildSeries();
        return 0;
    }

    public int limit(int count, int end) {
        if (count < 0 || count > MAX_COUNT) {
            return BAD_NUMBER;
        }
        if (!isDay(end)) {
            return BAD_DAY;
        }
        maxCount = count;
        endDay = end;
        buildSeries();
        return 0;
    }

    public int extra(int day, int how) {
        if (!isDay(day)) {
            return BAD_DAY;
        }
        int before = said[day] == NEITHER ? 0 : 1;
        int after = how == INCLUDED || how == EXCLUDED ? 1 : 0;
        int newCount = saidCount - before + after;
        if (newCount > MAX_SAID) {
            return FULL;
        }
        said[day] = (byte) (after == 1 ? how : NEITHER);
        saidCount = newCount;
        return saidCount;
    }

    public void clear() {
        resetRule();
        buildSeries();
    }

    public boolean occurs(int day) {
        return isDay(day) && isOfRule(day);
    }

    public int next(int day) {
        if (!isDay(day)) {
            return BAD_DAY;
        }
        for (int d = day; d < DAYS; d++) {
            if (isOfRule(d)) {
                return d;
            }
        }
        return NONE;
    }

    public int previous(int day) {
        if (!isDay(day)) {
            return BAD_DAY;
        }
        for (int d = day; d >= 0; d--) {
            if (isOfRule(d)) {
                return d;
            }
        }
        return NONE;
    }

    public int nth(int n) {
        int before = 0;
        for (int d = 0; d < DAYS; d++) {
            if (isOfRule(d)) {
                if (before == n) {
                    return d;
                }
                before++;
            }
        }
        return NONE;
    }

    public int between(int first, int last) {
        if (!isDay(first) || !isDay(last)) {
            return BAD_DAY;
        }
        int found = 0;
        for (int d = first; d <= last; d++) {
            if (isOfRule(d)) {
                found++;
            }
        }
        return found;
    }

    public int weekday(int day) {
        if (!isDay(day)) {
            return BAD_DAY;
        }
        return weekdayOf(day);
    }

    public int dayOf(int year, int month, int dayOfMonth) {
        if (year < FIRST_YEAR || year > LAST_YEAR || month < 1 || month > 12) {
            return BAD_NUMBER;
        }
        int index = (year - FIRST_YEAR) * 12 + month - 1;
        if (dayOfMonth < 1 || dayOfMonth > monthLength(index)) {
            return BAD_NUMBER;
        }
        return monthFirstDay[index] + dayOfMonth - 1;
    }

    private void layOutMonths() {
        for (int month = 0; month < MONTHS; month++) {
            monthFirstDay[month + 1] = monthFirstDay[month] + monthLength(month);
        }
        int month = 0;
        for (int day = 0; day < DAYS; day++) {
            if (day == monthFirstDay[month + 1]) {
                month++;
            }
            monthOfDay[day] = month;
        }
    }

    private void resetRule() {
        startDay = 0;
        period = DAILY;
        step = 1;
        monthSet = 0;
        monthDaySet = 0;
        lastDaySet = 0;
        weekdaySet = 0;
        weekdayOrdinal = 0;
        keptPosition = 0;
        maxCount = 0;
        endDay = LAST_DAY;
        for (int day = 0; day < DAYS; day++) {
            said[day] = NEITHER;
        }
        saidCount = 0;
    }

    private void buildSeries() {
        for (int day = 0; day < DAYS; day++) {
            inSeries[day] = isCandidate(day);
        }
        if (keptPosition != 0) {
            keepOneOfEachPeriod();
        }
        cutToLimits();
    }

    private void keepOneOfEachPeriod() {
        boolean upward = keptPosition > 0;
        int wanted = upward ? keptPosition : -keptPosition;
        int current = -1;
        int seen = 0;
        for (int i = 0; i < DAYS; i++) {
            int day = upward ? i : LAST_DAY - i;
            int number = periodOf(day);
            if (number != current) {
                current = number;
                seen = 0;
            }
            if (inSeries[day]) {
                seen++;
                inSeries[day] = seen == wanted;
            }
        }
    }

    // Comes after the position, because candidates before the start or after the end count for the position too.
    private void cutToLimits() {
        int taken = 0;
        for (int day = 0; day < DAYS; day++) {
            boolean room = maxCount == 0 || taken < maxCount;
            inSeries[day] = inSeries[day] && day >= startDay && day <= endDay && room;
            if (inSeries[day]) {
                taken++;
            }
        }
    }

    private boolean isOfRule(int day) {
        return said[day] == INCLUDED || said[day] == NEITHER && inSeries[day];
    }

    private boolean isCandidate(int day) {
        return periodCountsIn(day) && fitsMonths(day) && fitsMonthDays(day) && fitsWeekdays(day) && fitsStart(day);
    }

    private boolean periodCountsIn(int day) {
        int distance = periodOf(day) - periodOf(startDay);
        return distance >= 0 && distance % step == 0;
    }

    private boolean fitsMonths(int day) {
        return monthSet == 0 || hasBit(monthSet, monthOfDay[day] % 12 + 1);
    }

    private boolean fitsMonthDays(int day) {
        if (monthDaySet == 0 && lastDaySet == 0) {
            return true;
        }
        int fromEnd = monthFirstDay[monthOfDay[day] + 1] - day;
        int fromBeginning = dayOfMonthOf(day);
        return hasBit(monthDaySet, fromBeginning) || hasBit(lastDaySet, fromEnd);
    }

    private boolean fitsWeekdays(int day) {
        if (weekdaySet == 0) {
            return true;
        }
        int weekday = weekdayOf(day);
        return hasBit(weekdaySet, weekday) && fitsOrdinal(day);
    }

    private boolean fitsOrdinal(int day) {
        if (weekdayOrdinal == 0 || period == DAILY || period == WEEKLY) {
            return true;
        }
        int firstMonth = monthOfDay[day];
        int monthsLong = 1;
        if (period == YEARLY && monthSet == 0) {
            firstMonth = firstMonth / 12 * 12;
            monthsLong = 12;
        }
        if (weekdayOrdinal > 0) {
            return (day - monthFirstDay[firstMonth]) / 7 + 1 == weekdayOrdinal;
        }
        return (monthFirstDay[firstMonth + monthsLong] - 1 - day) / 7 + 1 == -weekdayOrdinal;
    }

    private boolean fitsStart(int day) {
        if (monthDaySet != 0 || lastDaySet != 0 || weekdaySet != 0 || period == DAILY) {
            return true;
        }
        if (period == WEEKLY) {
            return weekdayOf(day) == weekdayOf(startDay);
        }
        if (dayOfMonthOf(day) != dayOfMonthOf(startDay)) {
            return false;
        }
        return period == MONTHLY || monthSet != 0 || monthOfDay[day] % 12 == monthOfDay[startDay] % 12;
    }

    private int periodOf(int day) {
        switch (period) {
            case DAILY:
                return day;
            case WEEKLY:
                return (day + DAY_0_WEEKDAY) / 7;
            case MONTHLY:
                return monthOfDay[day];
            default:
                return monthOfDay[day] / 12;
        }
    }

    private int dayOfMonthOf(int day) {
        return day - monthFirstDay[monthOfDay[day]] + 1;
    }

    private static int weekdayOf(int day) {
        return (day + DAY_0_WEEKDAY) % 7;
    }

    private static boolean isDay(int day) {
        return day >= 0 && day <= LAST_DAY;
    }

    private static int monthLength(int index) {
        switch (index % 12 + 1) {
            case 2:
                return index / 12 % 4 == 0 ? 29 : 28;
            case 4:
            case 6:
            case 9:
            case 11:
                return 30;
            default:
                return 31;
        }
    }

    private static boolean hasBit(int set, int bit) {
        return (set >>> bit & 1) == 1;
    }

    private static int countBits(int set) {
        int count = 0;
        for (int bit = 0; bit < 32; bit++) {
            if (hasBit(set, bit)) {
                count++;
            }
        }
        return count;
    }
}
