import java.time.DayOfWeek;
import java.time.LocalDate;
import java.time.temporal.ChronoUnit;
import java.time.temporal.TemporalAdjusters;
import java.util.ArrayList;
import java.util.List;
import java.util.Map;
import java.util.TreeMap;
import java.util.TreeSet;

/** Long runs of calls against a second, slow reading of the document over the Java library's dates. */
public final class ModelTest {
    private static final int RUNS = 800;
    // 45 changes and 15 times 31 questions: 510 calls, and the document promises 512 for one object.
    private static final int CHANGES = 45;
    private static final int CHANGES_BEFORE_ASKING = 3;
    private static long seed = 20261115;

    private final CalendarRules rules = new CalendarRules();
    private int start;
    private int frequency;
    private int interval;
    private int months;
    private int monthDays;
    private int lastDays;
    private int weekDays;
    private int ordinal;
    private int position;
    private int count;
    private int end;
    private final Map<Integer, Integer> said = new TreeMap<>();
    private TreeSet<Integer> days = new TreeSet<>();
    private String trail = "";

    private ModelTest() {
        clear();
    }

    public static void main(String[] args) {
        for (int run = 0; run < RUNS; run++) {
            ModelTest test = new ModelTest();
            for (int call = 0; call < CHANGES; call++) {
                test.change();
                if ((call + 1) % CHANGES_BEFORE_ASKING == 0) {
                    test.days = test.daysOfTheRule();
                    test.ask();
                }
            }
        }
        Check.finish();
    }

    /** A generator of our own, so that every run is the same. */
    private static int pick(int low, int high) {
        seed = seed * 6364136223846793005L + 1442695040888963407L;
        return low + (int) ((seed >>> 33) % (high - low + 1));
    }

    private static int pickBits() {
        return pick(0, 0xFFFF) << 16 | pick(0, 0xFFFF);
    }

    /** Often empty, often few, sometimes many. */
    private static int pickSet() {
        switch (pick(0, 3)) {
            case 0:
                return 0;
            case 1:
                return 1 << pick(0, 31) | 1 << pick(0, 12);
            case 2:
                return pickBits() & pickBits();
            default:
                return pickBits();
        }
    }

    /** In the bounds, or now and then just outside or far outside. */
    private static int pickAround(int low, int high) {
        switch (pick(0, 30)) {
            case 0:
                return low - 1;
            case 1:
                return high + 1;
            case 2:
                return pickBits();
            default:
                return pick(low, high);
        }
    }

    private static boolean isDay(int day) {
        return day >= 0 && day <= Check.LAST_DAY;
    }

    private void due(String call, int got, int want) {
        trail += " " + call;
        Check.due(trail, got, want);
    }

    private void clear() {
        start = 0;
        frequency = 0;
        interval = 1;
        months = 0;
        monthDays = 0;
        lastDays = 0;
        weekDays = 0;
        ordinal = 0;
        position = 0;
        count = 0;
        end = Check.LAST_DAY;
        said.clear();
        trail = "";
    }

    private void change() {
        switch (pick(0, 40)) {
            case 0:
                rules.clear();
                clear();
                break;
            case 1: case 2: case 3: case 4: case 5:
                changeStart(pick(0, 2) > 0 ? pickAround(0, 800) : pickAround(0, Check.LAST_DAY));
                break;
            case 6: case 7: case 8: case 9: case 10: case 11:
                changeFrequency(pickAround(0, 3), pick(0, 1) == 0 ? pickAround(1, 20) : pick(1, 3));
                break;
            case 12: case 13: case 14: case 15:
                changeMonths(pickSet());
                break;
            case 16: case 17: case 18: case 19:
                changeMonthDays(pickSet(), pickSet());
                break;
            case 20: case 21: case 22: case 23: case 24:
                changeWeekDays(pickSet(), pick(0, 2) == 0 ? 0 : pickAround(-5, 5));
                break;
            case 25: case 26: case 27: case 28:
                changePosition(pick(0, 2) == 0 ? 0 : pick(0, 1) == 0 ? pick(-3, 3) : pickAround(-10, 10));
                break;
            case 29: case 30: case 31: case 32:
                changeLimit(pick(0, 1) == 0 ? 0 : pickAround(0, 500), pickAround(2000, Check.LAST_DAY));
                break;
            default:
                changeExtra(pick(0, 3) == 0 ? pickKnown() : pickAround(0, Check.LAST_DAY), pickAround(0, 3));
                break;
        }
    }

    /** A day of the rule or one of which something is said, if there is one. */
    private int pickKnown() {
        List<Integer> known = new ArrayList<>(pick(0, 1) == 0 ? days : said.keySet());
        return known.isEmpty() ? 0 : known.get(pick(0, known.size() - 1));
    }

    private void changeStart(int day) {
        int want = CalendarRules.BAD_DAY;
        if (isDay(day)) {
            start = day;
            want = Check.date(day).getDayOfWeek().getValue() - 1;
        }
        due("start(" + day + ")", rules.start(day), want);
    }

    private void changeFrequency(int newFrequency, int newInterval) {
        int want = CalendarRules.BAD_NUMBER;
        if (newFrequency >= 0 && newFrequency <= 3 && newInterval >= 1 && newInterval <= 20) {
            frequency = newFrequency;
            interval = newInterval;
            want = 0;
        }
        due("frequency(" + newFrequency + ", " + newInterval + ")", rules.frequency(newFrequency, newInterval), want);
    }

    private void changeMonths(int set) {
        months = set & 0b1_1111_1111_1110;
        due("months(" + set + ")", rules.months(set), Integer.bitCount(months));
    }

    private void changeMonthDays(int set, int lastSet) {
        monthDays = set & 0xFFFFFFFE;
        lastDays = lastSet & 0xFFFFFFFE;
        due("monthDays(" + set + ", " + lastSet + ")", rules.monthDays(set, lastSet),
            Integer.bitCount(monthDays) + Integer.bitCount(lastDays));
    }

    private void changeWeekDays(int set, int newOrdinal) {
        int want = CalendarRules.BAD_NUMBER;
        if (newOrdinal >= -5 && newOrdinal <= 5) {
            weekDays = set & 0b111_1111;
            ordinal = newOrdinal;
            want = Integer.bitCount(weekDays);
        }
        due("weekDays(" + set + ", " + newOrdinal + ")", rules.weekDays(set, newOrdinal), want);
    }

    private void changePosition(int p) {
        int want = CalendarRules.BAD_NUMBER;
        if (p >= -10 && p <= 10) {
            position = p;
            want = 0;
        }
        due("position(" + p + ")", rules.position(p), want);
    }

    private void changeLimit(int newCount, int newEnd) {
        int want = 0;
        if (newCount < 0 || newCount > 500) {
            want = CalendarRules.BAD_NUMBER;
        } else if (!isDay(newEnd)) {
            want = CalendarRules.BAD_DAY;
        } else {
            count = newCount;
            end = newEnd;
        }
        due("limit(" + newCount + ", " + newEnd + ")", rules.limit(newCount, newEnd), want);
    }

    private void changeExtra(int day, int how) {
        boolean says = how == 1 || how == 2;
        int want;
        if (!isDay(day)) {
            want = CalendarRules.BAD_DAY;
        } else if (says && !said.containsKey(day) && said.size() == 12) {
            want = CalendarRules.FULL;
        } else {
            if (says) {
                said.put(day, how);
            } else {
                said.remove(day);
            }
            want = said.size();
        }
        due("extra(" + day + ", " + how + ")", rules.extra(day, how), want);
    }

    private void ask() {
        Check.due(trail + ": how many days", rules.between(0, Check.LAST_DAY), days.size());
        for (int i = 0; i < 6; i++) {
            askAt(pick(0, 1) == 0 ? pickAround(0, Check.LAST_DAY) : pickKnown() + pick(-1, 1));
        }
    }

    private void askAt(int day) {
        Check.due(trail + " occurs(" + day + ")", rules.occurs(day), days.contains(day));
        Check.due(trail + " next(" + day + ")", rules.next(day), orBad(day, days.ceiling(day)));
        Check.due(trail + " previous(" + day + ")", rules.previous(day), orBad(day, days.floor(day)));
        int n = pickAround(0, days.size());
        Integer nth = n >= 0 && n < days.size() ? new ArrayList<>(days).get(n) : null;
        Check.due(trail + " nth(" + n + ")", rules.nth(n), orNone(nth));
        int last = pickAround(0, Check.LAST_DAY);
        int inside = day > last ? 0 : days.subSet(day, true, last, true).size();
        Check.due(trail + " between(" + day + ", " + last + ")", rules.between(day, last),
            isDay(day) && isDay(last) ? inside : CalendarRules.BAD_DAY);
    }

    private static int orBad(int day, Integer found) {
        return isDay(day) ? orNone(found) : CalendarRules.BAD_DAY;
    }

    private static int orNone(Integer found) {
        return found == null ? CalendarRules.NONE : found;
    }

    private TreeSet<Integer> daysOfTheRule() {
        TreeSet<Integer> result = new TreeSet<>();
        for (int day : stayingCandidates()) {
            if (day >= start && day <= end && (count == 0 || result.size() < count)) {
                result.add(day);
            }
        }
        for (Map.Entry<Integer, Integer> entry : said.entrySet()) {
            if (entry.getValue() == 1) {
                result.add(entry.getKey());
            } else {
                result.remove(entry.getKey());
            }
        }
        return result;
    }

    private TreeSet<Integer> stayingCandidates() {
        TreeMap<LocalDate, List<Integer>> periods = new TreeMap<>();
        for (int day = 0; day <= Check.LAST_DAY; day++) {
            LocalDate date = Check.date(day);
            if (countsIn(date) && isCandidate(date)) {
                periods.computeIfAbsent(periodStart(date), key -> new ArrayList<>()).add(day);
            }
        }
        TreeSet<Integer> result = new TreeSet<>();
        for (List<Integer> candidates : periods.values()) {
            int index = position > 0 ? position - 1 : candidates.size() + position;
            if (position == 0) {
                result.addAll(candidates);
            } else if (index >= 0 && index < candidates.size()) {
                result.add(candidates.get(index));
            }
        }
        return result;
    }

    private LocalDate periodStart(LocalDate date) {
        switch (frequency) {
            case 0:
                return date;
            case 1:
                return date.with(TemporalAdjusters.previousOrSame(DayOfWeek.MONDAY));
            case 2:
                return date.withDayOfMonth(1);
            default:
                return date.withDayOfYear(1);
        }
    }

    private boolean countsIn(LocalDate date) {
        ChronoUnit[] units = {ChronoUnit.DAYS, ChronoUnit.WEEKS, ChronoUnit.MONTHS, ChronoUnit.YEARS};
        long number = units[frequency].between(periodStart(Check.date(start)), periodStart(date));
        return number == 0 || number > 0 && number % interval == 0;
    }

    private static boolean has(int set, int number) {
        return (set & 1 << number) != 0;
    }

    private boolean isCandidate(LocalDate date) {
        if (months != 0 && !has(months, date.getMonthValue())) {
            return false;
        }
        int fromEnd = date.lengthOfMonth() - date.getDayOfMonth() + 1;
        boolean noMonthDays = monthDays == 0 && lastDays == 0;
        if (!noMonthDays && !has(monthDays, date.getDayOfMonth()) && !has(lastDays, fromEnd)) {
            return false;
        }
        if (weekDays != 0 && !(has(weekDays, date.getDayOfWeek().getValue() - 1) && isOrdinal(date))) {
            return false;
        }
        return !(noMonthDays && weekDays == 0) || isLikeTheStart(date);
    }

    /** Walks week by week to the edge of the month or year, and so counts the weekday's days. */
    private boolean isOrdinal(LocalDate date) {
        if (ordinal == 0 || frequency < 2) {
            return true;
        }
        boolean ofYear = frequency == 3 && months == 0;
        int number = 0;
        LocalDate other = date;
        while (other.getYear() == date.getYear() && (ofYear || other.getMonth() == date.getMonth())) {
            number++;
            other = ordinal > 0 ? other.minusWeeks(1) : other.plusWeeks(1);
        }
        return number == Math.abs(ordinal);
    }

    private boolean isLikeTheStart(LocalDate date) {
        LocalDate first = Check.date(start);
        switch (frequency) {
            case 0:
                return true;
            case 1:
                return date.getDayOfWeek() == first.getDayOfWeek();
            case 2:
                return date.getDayOfMonth() == first.getDayOfMonth();
            default:
                return date.getDayOfMonth() == first.getDayOfMonth()
                    && (months != 0 || date.getMonth() == first.getMonth());
        }
    }
}
