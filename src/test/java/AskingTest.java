/** Promises 11 to 17: the calls that ask. */
public final class AskingTest {
    // The document promises 512 calls of one object: loops over all days take a new object this often.
    private static final int FRESH_AFTER = 400;
    private static final int[] BAD_DAYS = {-1, 7305, Integer.MIN_VALUE, Integer.MAX_VALUE};

    public static void main(String[] args) {
        promise11Occurs();
        promise12Next();
        promise13Previous();
        promise14Nth();
        promise15Between();
        promise16Weekday();
        promise17DayOf();
        askingChangesNothing();
        Check.finish();
    }

    /** The days of the rule: 3, 10, 24, 31, 7300. */
    private static CalendarRules sample() {
        CalendarRules rules = new CalendarRules();
        rules.start(10);
        rules.frequency(1, 1);
        rules.limit(4, 7000);
        rules.extra(17, 2);
        rules.extra(3, 1);
        rules.extra(7300, 1);
        return rules;
    }

    private static CalendarRules empty() {
        CalendarRules rules = new CalendarRules();
        rules.position(2);
        return rules;
    }

    private static void promise11Occurs() {
        CalendarRules rules = sample();
        for (int day = 0; day <= Check.LAST_DAY; day++) {
            rules = day % FRESH_AFTER == 0 ? sample() : rules;
            boolean want = day == 3 || day == 10 || day == 24 || day == 31 || day == 7300;
            Check.due("occurs(" + day + ")", rules.occurs(day), want);
        }
        CalendarRules all = new CalendarRules();
        Check.due("occurs(0)", all.occurs(0), true);
        Check.due("occurs(7304)", all.occurs(7304), true);
        for (int bad : BAD_DAYS) {
            Check.due("occurs(" + bad + ")", all.occurs(bad), false);
        }
    }

    private static void promise12Next() {
        CalendarRules rules = sample();
        int[][] rows = {{0, 3}, {3, 3}, {4, 10}, {11, 24}, {17, 24}, {25, 31}, {32, 7300}, {7300, 7300}};
        for (int[] row : rows) {
            Check.due("next(" + row[0] + ")", rules.next(row[0]), row[1]);
        }
        Check.due("next(7301)", rules.next(7301), CalendarRules.NONE);
        Check.due("next of the last day", new CalendarRules().next(7304), 7304);
        Check.due("next without days", empty().next(0), CalendarRules.NONE);
        for (int bad : BAD_DAYS) {
            Check.due("next(" + bad + ")", rules.next(bad), CalendarRules.BAD_DAY);
        }
    }

    private static void promise13Previous() {
        CalendarRules rules = sample();
        int[][] rows = {{7304, 7300}, {7300, 7300}, {7299, 31}, {31, 31}, {30, 24}, {23, 10}, {17, 10}, {9, 3}, {3, 3}};
        for (int[] row : rows) {
            Check.due("previous(" + row[0] + ")", rules.previous(row[0]), row[1]);
        }
        Check.due("previous(2)", rules.previous(2), CalendarRules.NONE);
        Check.due("previous of the first day", new CalendarRules().previous(0), 0);
        Check.due("previous without days", empty().previous(7304), CalendarRules.NONE);
        for (int bad : BAD_DAYS) {
            Check.due("previous(" + bad + ")", rules.previous(bad), CalendarRules.BAD_DAY);
        }
    }

    private static void promise14Nth() {
        CalendarRules rules = sample();
        Check.dueDays("nth", rules, 3, 10, 24, 31, 7300);
        for (int n : new int[] {5, -1, 7305, Integer.MIN_VALUE, Integer.MAX_VALUE}) {
            Check.due("nth(" + n + ")", rules.nth(n), CalendarRules.NONE);
        }
        CalendarRules all = new CalendarRules();
        Check.due("nth(7304) of all", all.nth(7304), 7304);
        Check.due("nth(7305) of all", all.nth(7305), CalendarRules.NONE);
        Check.due("nth(-1) of all", all.nth(-1), CalendarRules.NONE);
        Check.due("nth(0) of none", empty().nth(0), CalendarRules.NONE);
    }

    private static void promise15Between() {
        CalendarRules rules = sample();
        int[][] rows = {
            {0, 7304, 5}, {3, 3, 1}, {4, 9, 0}, {3, 10, 2}, {4, 10, 1}, {10, 31, 3}, {11, 30, 1}, {32, 7299, 0},
            {31, 3, 0}, {11, 10, 0}, {7304, 0, 0}, {17, 17, 0}
        };
        for (int[] row : rows) {
            Check.due("between(" + row[0] + ", " + row[1] + ")", rules.between(row[0], row[1]), row[2]);
        }
        for (int bad : BAD_DAYS) {
            Check.due("between(" + bad + ", 5)", rules.between(bad, 5), CalendarRules.BAD_DAY);
            Check.due("between(5, " + bad + ")", rules.between(5, bad), CalendarRules.BAD_DAY);
            Check.due("between(" + bad + ", " + bad + ")", rules.between(bad, bad), CalendarRules.BAD_DAY);
        }
    }

    private static void promise16Weekday() {
        CalendarRules rules = new CalendarRules();
        for (int day = 0; day <= Check.LAST_DAY; day++) {
            rules = day % FRESH_AFTER == 0 ? new CalendarRules() : rules;
            Check.due("weekday(" + day + ")", rules.weekday(day), Check.date(day).getDayOfWeek().getValue() - 1);
        }
        rules = new CalendarRules();
        for (int bad : BAD_DAYS) {
            Check.due("weekday(" + bad + ")", rules.weekday(bad), CalendarRules.BAD_DAY);
        }
    }

    private static void promise17DayOf() {
        CalendarRules rules = new CalendarRules();
        for (int year = 2000; year <= 2019; year++) {
            // A year takes 12 times 35 calls.
            rules = new CalendarRules();
            for (int month = 1; month <= 12; month++) {
                int length = Check.date(Check.day(year, month, 1)).lengthOfMonth();
                for (int d = -1; d <= 33; d++) {
                    int want = d < 1 || d > length ? CalendarRules.BAD_NUMBER : Check.day(year, month, d);
                    Check.due("dayOf(" + year + ", " + month + ", " + d + ")", rules.dayOf(year, month, d), want);
                }
            }
        }
        rules = new CalendarRules();
        Check.due("the first day", rules.dayOf(2000, 1, 1), 0);
        Check.due("the last day", rules.dayOf(2019, 12, 31), 7304);
        int[] far = {Integer.MIN_VALUE, Integer.MAX_VALUE, -1, 0};
        for (int bad : far) {
            Check.due("dayOf(" + bad + ", 1, 1)", rules.dayOf(bad, 1, 1), CalendarRules.BAD_NUMBER);
            Check.due("dayOf(2000, " + bad + ", 1)", rules.dayOf(2000, bad, 1), CalendarRules.BAD_NUMBER);
            Check.due("dayOf(2000, 1, " + bad + ")", rules.dayOf(2000, 1, bad), CalendarRules.BAD_NUMBER);
        }
        Check.due("dayOf(1999, 12, 31)", rules.dayOf(1999, 12, 31), CalendarRules.BAD_NUMBER);
        Check.due("dayOf(2020, 1, 1)", rules.dayOf(2020, 1, 1), CalendarRules.BAD_NUMBER);
        Check.due("dayOf(2001, 0, 1)", rules.dayOf(2001, 0, 1), CalendarRules.BAD_NUMBER);
        Check.due("dayOf(2001, 13, 1)", rules.dayOf(2001, 13, 1), CalendarRules.BAD_NUMBER);
    }

    private static void askingChangesNothing() {
        CalendarRules rules = sample();
        for (int day : new int[] {0, 11, 7304, -1, 7305}) {
            rules.occurs(day);
            rules.next(day);
            rules.previous(day);
            rules.nth(day);
            rules.between(day, 7304);
            rules.weekday(day);
            rules.dayOf(2001, 2, day);
            Check.dueDays("after asking", rules, 3, 10, 24, 31, 7300);
        }
        Check.due("what is said stays", rules.extra(0, 0), 3);
    }
}
