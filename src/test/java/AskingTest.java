/** Promises 11 to 17: the calls that ask. */
public final class AskingTest {
    private static final int MIN = Integer.MIN_VALUE;
    private static final int MAX = Integer.MAX_VALUE;
    // The document promises 512 calls of one object: loops over all days take a new object this often.
    private static final int FRESH_AFTER = 400;
    private static final int[] BAD_DAYS = {-1, 7305, MIN, MAX};

    public static void main(String[] args) {
        theCallsChangeNothing();
        aBadDayIsBadDay();
        promise11Occurs();
        promise12Next();
        promise12NextAtBothEnds();
        promise12NoNext();
        promise13Previous();
        promise13PreviousAtBothEnds();
        promise13NoPrevious();
        promise14Nth();
        promise14NthFrom0();
        promise14NoNth();
        promise15Between();
        promise15FirstAndLastCount();
        promise15FirstAboveLast();
        promise15NoneBetween();
        promise16Weekday();
        promise17DayOf();
        promise17YearFrom2000To2019();
        promise17MonthFrom1To12();
        promise17DayOfMonthFrom1ToItsLastOne();
        Check.finish();
    }

    /** The days of the rule: 3, 10, 24, 31, 7300. */
    private static CalendarRules sample() {
        CalendarRules rules = new CalendarRules();
        rules.start(10);
        rules.frequency(1, 1);
        rules.limit(4, 7000);
        rules.extra(17, 2);
        rules.extra(3, 1);
        rules.extra(7300, 1);
        return rules;
    }

    private static CalendarRules withoutDays() {
        CalendarRules rules = new CalendarRules();
        rules.position(2);
        return rules;
    }

    /** "The calls below change nothing.": neither when they find something nor when they refuse. */
    private static void theCallsChangeNothing() {
        CalendarRules rules = Check.busy();
        for (int day : new int[] {0, 11, 7304, -1, 7305}) {
            rules.occurs(day);
            rules.next(day);
            rules.previous(day);
            rules.nth(day);
            rules.between(day, 7304);
            rules.between(0, day);
            rules.weekday(day);
            rules.dayOf(2001, 2, day);
        }
        Check.dueSame("after asking", rules, Check.busy());
    }

    /**
     * "A day not in 0 to 7304 is BAD_DAY (false for occurs)." Every day is of a new rule, so that nothing but the range
     * can make the answer.
     */
    private static void aBadDayIsBadDay() {
        CalendarRules rules = new CalendarRules();
        for (int bad : BAD_DAYS) {
            Check.due("occurs(" + bad + ")", rules.occurs(bad), false);
            Check.due("next(" + bad + ")", rules.next(bad), CalendarRules.BAD_DAY);
            Check.due("previous(" + bad + ")", rules.previous(bad), CalendarRules.BAD_DAY);
            Check.due("between(" + bad + ", 5)", rules.between(bad, 5), CalendarRules.BAD_DAY);
            Check.due("between(5, " + bad + ")", rules.between(5, bad), CalendarRules.BAD_DAY);
            Check.due("between(" + bad + ", " + bad + ")", rules.between(bad, bad), CalendarRules.BAD_DAY);
            Check.due("weekday(" + bad + ")", rules.weekday(bad), CalendarRules.BAD_DAY);
        }
        Check.due("between(-1, 7305)", rules.between(-1, 7305), CalendarRules.BAD_DAY);
        Check.due("between(7305, -1)", rules.between(7305, -1), CalendarRules.BAD_DAY);
    }

    private static void promise11Occurs() {
        CalendarRules rules = sample();
        for (int day = 0; day <= Check.LAST_DAY; day++) {
            rules = day % FRESH_AFTER == 0 ? sample() : rules;
            boolean want = day == 3 || day == 10 || day == 24 || day == 31 || day == 7300;
            Check.due("occurs(" + day + ")", rules.occurs(day), want);
        }
        Check.due("occurs(0)", new CalendarRules().occurs(0), true);
        Check.due("occurs(7304)", new CalendarRules().occurs(7304), true);
    }

    private static void promise12Next() {
        CalendarRules rules = sample();
        int[][] rows = {{0, 3}, {3, 3}, {4, 10}, {11, 24}, {17, 24}, {25, 31}, {32, 7300}, {7300, 7300}};
        for (int[] row : rows) {
            Check.due("next(" + row[0] + ")", rules.next(row[0]), row[1]);
        }
    }

    private static void promise12NextAtBothEnds() {
        CalendarRules rules = new CalendarRules();
        Check.due("next(0) is day 0", rules.next(0), 0);
        Check.due("next(7304) is day 7304", rules.next(7304), 7304);
        rules.start(7304);
        Check.due("from end to end", rules.next(0), 7304);
    }

    private static void promise12NoNext() {
        Check.due("next behind the last one", sample().next(7301), CalendarRules.NONE);
        Check.due("next(7304)", sample().next(7304), CalendarRules.NONE);
        Check.due("next without days", withoutDays().next(0), CalendarRules.NONE);
    }

    private static void promise13Previous() {
        CalendarRules rules = sample();
        int[][] rows = {{7304, 7300}, {7300, 7300}, {7299, 31}, {31, 31}, {30, 24}, {23, 10}, {17, 10}, {9, 3}, {3, 3}};
        for (int[] row : rows) {
            Check.due("previous(" + row[0] + ")", rules.previous(row[0]), row[1]);
        }
    }

    private static void promise13PreviousAtBothEnds() {
        CalendarRules rules = new CalendarRules();
        Check.due("previous(0) is day 0", rules.previous(0), 0);
        Check.due("previous(7304) is day 7304", rules.previous(7304), 7304);
        rules.limit(0, 0);
        Check.due("from end to end", rules.previous(7304), 0);
    }

    private static void promise13NoPrevious() {
        Check.due("previous ahead of the first one", sample().previous(2), CalendarRules.NONE);
        Check.due("previous(0)", sample().previous(0), CalendarRules.NONE);
        Check.due("previous without days", withoutDays().previous(7304), CalendarRules.NONE);
    }

    private static void promise14Nth() {
        Check.dueDays("nth", sample(), 3, 10, 24, 31, 7300);
    }

    private static void promise14NthFrom0() {
        CalendarRules rules = new CalendarRules();
        Check.due("nth(0) of all", rules.nth(0), 0);
        Check.due("nth(1) of all", rules.nth(1), 1);
        Check.due("nth(7304) of all", rules.nth(7304), 7304);
    }

    private static void promise14NoNth() {
        CalendarRules rules = sample();
        for (int n : new int[] {5, 6, -1, 7304, 7305, MIN, MAX}) {
            Check.due("nth(" + n + ")", rules.nth(n), CalendarRules.NONE);
        }
        Check.due("nth(7305) of all", new CalendarRules().nth(7305), CalendarRules.NONE);
        Check.due("nth(-1) of all", new CalendarRules().nth(-1), CalendarRules.NONE);
        Check.due("nth(0) of none", withoutDays().nth(0), CalendarRules.NONE);
    }

    private static void dueBetween(CalendarRules rules, int first, int last, int want) {
        Check.due("between(" + first + ", " + last + ")", rules.between(first, last), want);
    }

    private static void promise15Between() {
        CalendarRules rules = sample();
        int[][] rows = {{0, 7304, 5}, {4, 9, 0}, {4, 10, 1}, {11, 30, 1}, {32, 7299, 0}, {17, 17, 0}};
        for (int[] row : rows) {
            dueBetween(rules, row[0], row[1], row[2]);
        }
    }

    private static void promise15FirstAndLastCount() {
        CalendarRules rules = sample();
        int[][] rows = {{3, 3, 1}, {3, 10, 2}, {10, 31, 3}, {3, 7300, 5}, {4, 7299, 3}};
        for (int[] row : rows) {
            dueBetween(rules, row[0], row[1], row[2]);
        }
        CalendarRules all = new CalendarRules();
        dueBetween(all, 0, 0, 1);
        dueBetween(all, 7304, 7304, 1);
        dueBetween(all, 0, 7304, 7305);
    }

    private static void promise15FirstAboveLast() {
        CalendarRules all = new CalendarRules();
        dueBetween(all, 1, 0, 0);
        dueBetween(all, 7304, 0, 0);
        dueBetween(all, 7304, 7303, 0);
        dueBetween(sample(), 31, 3, 0);
    }

    private static void promise15NoneBetween() {
        dueBetween(withoutDays(), 0, 7304, 0);
        dueBetween(withoutDays(), 0, 0, 0);
        dueBetween(withoutDays(), 7304, 0, 0);
    }

    private static void promise16Weekday() {
        CalendarRules rules = new CalendarRules();
        for (int day = 0; day <= Check.LAST_DAY; day++) {
            rules = day % FRESH_AFTER == 0 ? new CalendarRules() : rules;
            Check.due("weekday(" + day + ")", rules.weekday(day), Check.date(day).getDayOfWeek().getValue() - 1);
        }
    }

    private static void dueDayOf(int year, int month, int dayOfMonth, int want) {
        Check.due("dayOf(" + year + ", " + month + ", " + dayOfMonth + ")",
            new CalendarRules().dayOf(year, month, dayOfMonth), want);
    }

    private static void promise17DayOf() {
        for (int day = 0; day <= Check.LAST_DAY; day++) {
            dueDayOf(Check.date(day).getYear(), Check.date(day).getMonthValue(), Check.date(day).getDayOfMonth(), day);
        }
    }

    private static void promise17YearFrom2000To2019() {
        dueDayOf(2000, 1, 1, 0);
        dueDayOf(2000, 12, 31, 365);
        dueDayOf(2019, 1, 1, 6940);
        dueDayOf(2019, 12, 31, 7304);
        // Some of these are 2000 or 2001 again if years wrap around as months or in a smaller type.
        int[] badYears = {1999, 2020, 0, -1, -2000, 2000 + 65536, 2000 + (1 << 30), 2001 + (1 << 30), MIN, MAX};
        for (int bad : badYears) {
            dueDayOf(bad, 1, 1, CalendarRules.BAD_NUMBER);
            dueDayOf(bad, 12, 31, CalendarRules.BAD_NUMBER);
        }
    }

    private static void promise17MonthFrom1To12() {
        dueDayOf(2001, 1, 1, 366);
        dueDayOf(2001, 12, 1, Check.day(2001, 12, 1));
        for (int bad : new int[] {0, 13, -1, -11, 24, MIN, MAX}) {
            dueDayOf(2000, bad, 1, CalendarRules.BAD_NUMBER);
            dueDayOf(2001, bad, 1, CalendarRules.BAD_NUMBER);
            dueDayOf(2019, bad, 1, CalendarRules.BAD_NUMBER);
        }
    }

    private static void promise17DayOfMonthFrom1ToItsLastOne() {
        for (int month = 0; month < 240; month++) {
            int year = 2000 + month / 12;
            int ofYear = month % 12 + 1;
            int length = Check.date(Check.day(year, ofYear, 1)).lengthOfMonth();
            dueDayOf(year, ofYear, 1, Check.day(year, ofYear, 1));
            dueDayOf(year, ofYear, length, Check.day(year, ofYear, length));
            for (int bad : new int[] {0, length + 1, -1, 32, MIN, MAX}) {
                dueDayOf(year, ofYear, bad, CalendarRules.BAD_NUMBER);
            }
        }
    }
}
