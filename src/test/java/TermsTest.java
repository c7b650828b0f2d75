/** The terms up to the candidates, seen through the days of the rule: days, sets, periods, candidates. */
public final class TermsTest {
    public static void main(String[] args) {
        daysFrom0To7304();
        monthsFrom1To12();
        everyFourthYearHas366Days();
        weekdaysFrom0To6();
        weeksBeginOnMonday();
        lastDaysFrom1To31();
        setsMayBeEmpty();
        thePeriodOfTheStartCountsIn();
        multiplesOfTheIntervalCountIn();
        multiplesCountInUpToTheLastPeriod();
        monthsAreEmptyOrHaveTheMonth();
        monthDaysOrLastDays();
        noSuchDayInTheMonth();
        lastDaysOfTheLastMonth();
        ordinalOfTheMonth();
        noFifthInTheMonth();
        ordinalOfTheYear();
        ordinalOfTheMonthIfMonthsAreGiven();
        ordinalAtBothEndsOfTheDays();
        ordinalNotLookedAt();
        likeTheStartDaily();
        likeTheStartWeekly();
        likeTheStartMonthly();
        likeTheStartYearly();
        likeTheStartOnlyIfAllAreEmpty();
        Check.finish();
    }

    /** "DAYS are numbered from 0, which is Saturday, January 1, 2000, to 7304, which is December 31, 2019". */
    private static void daysFrom0To7304() {
        CalendarRules rules = new CalendarRules();
        Check.due("January 1, 2000", rules.dayOf(2000, 1, 1), 0);
        Check.due("January 2, 2000", rules.dayOf(2000, 1, 2), 1);
        Check.due("a Saturday", rules.weekday(0), 5);
        Check.due("December 30, 2019", rules.dayOf(2019, 12, 30), 7303);
        Check.due("December 31, 2019", rules.dayOf(2019, 12, 31), 7304);
        Check.due("a Tuesday", rules.weekday(7304), 1);
        Check.due("the first of all", rules.nth(0), 0);
        Check.due("the last of all", rules.nth(7304), 7304);
        Check.due("all", rules.between(0, 7304), 7305);
    }

    /** "months are 1 to 12": after the twelfth comes the first. */
    private static void monthsFrom1To12() {
        CalendarRules rules = new CalendarRules();
        rules.start(Check.day(2000, 11, 15));
        rules.months(Check.set(1, 12));
        rules.monthDays(Check.set(1), Check.set(1));
        Check.dueFirst("first and last days of December and January", rules, Check.day(2000, 12, 1),
            Check.day(2000, 12, 31), Check.day(2001, 1, 1), Check.day(2001, 1, 31), Check.day(2001, 12, 1));
        rules.months(0);
        rules.frequency(2, 13);
        Check.dueFirst("every 13 months", rules, Check.day(2000, 11, 30), Check.day(2001, 12, 1),
            Check.day(2001, 12, 31), Check.day(2003, 1, 1), Check.day(2003, 1, 31), Check.day(2004, 2, 1));
    }

    /** "every fourth year from 2000 on has 366 days". */
    private static void everyFourthYearHas366Days() {
        CalendarRules rules = new CalendarRules();
        for (int year = 2000; year <= 2019; year++) {
            boolean leap = year == 2000 || year == 2004 || year == 2008 || year == 2012 || year == 2016;
            int first = rules.dayOf(year, 1, 1);
            Check.due("days of " + year, rules.dayOf(year, 12, 31) - first + 1, leap ? 366 : 365);
            Check.due("February 29, " + year, rules.dayOf(year, 2, 29), leap ? first + 59 : CalendarRules.BAD_NUMBER);
            Check.due("March 1, " + year, rules.dayOf(year, 3, 1), first + (leap ? 60 : 59));
        }
        rules.monthDays(Check.set(29), 0);
        rules.months(Check.set(2));
        Check.dueDays("every February 29", rules, Check.day(2000, 2, 29), Check.day(2004, 2, 29),
            Check.day(2008, 2, 29), Check.day(2012, 2, 29), Check.day(2016, 2, 29));
    }

    /** "WEEKDAYS are 0 to 6, Monday being 0": after the sixth comes 0. */
    private static void weekdaysFrom0To6() {
        CalendarRules rules = new CalendarRules();
        for (int weekday = 0; weekday <= 6; weekday++) {
            Check.due("weekday of day " + (2 + weekday), rules.weekday(2 + weekday), weekday);
            rules.weekDays(1 << weekday, 0);
            Check.due("next of weekday " + weekday, rules.next(2), 2 + weekday);
            Check.due("the one after", rules.next(3 + weekday), 9 + weekday);
        }
        Check.due("weekday of day 1", rules.weekday(1), 6);
        Check.due("weekday of day 9", rules.weekday(9), 0);
    }

    /** "weeks begin on Monday". */
    private static void weeksBeginOnMonday() {
        CalendarRules rules = new CalendarRules();
        rules.frequency(1, 2);
        rules.weekDays(0x7F, 0);
        Check.dueFirst("every second week from Saturday", rules, 0, 1, 9, 10, 11, 12, 13, 14, 15, 23);
        rules.start(2);
        Check.dueFirst("from Monday", rules, 2, 3, 4, 5, 6, 7, 8, 16);
        rules.start(8);
        Check.dueFirst("from Sunday", rules, 8, 16, 17);
    }

    /** "a set of LAST DAYS 1 to 31 (1 being a month's last day, 2 the one before, ..)". */
    private static void lastDaysFrom1To31() {
        CalendarRules rules = new CalendarRules();
        rules.limit(0, 365);
        for (int d = 1; d <= 31; d++) {
            rules.monthDays(0, 1 << d);
            Check.due("last day " + d + " of January", rules.nth(0), 31 - d);
            Check.due("last day " + d + " of December", rules.previous(7304), 366 - d);
            Check.due("months with last day " + d, rules.between(0, 7304), d <= 29 ? 12 : d == 30 ? 11 : 7);
        }
        rules.monthDays(0, Check.set(28, 29));
        Check.due("before the last 27 days of February", rules.between(31, 59), 2);
        rules.limit(0, 7304);
        Check.due("in a February of 28 days", rules.between(Check.day(2001, 2, 1), Check.day(2001, 2, 28)), 1);
    }

    /** "These sets may be empty." Each set is filled and emptied again. */
    private static void setsMayBeEmpty() {
        CalendarRules rules = new CalendarRules();
        rules.frequency(2, 1);
        rules.months(Check.set(3));
        rules.months(0);
        Check.dueFirst("no months", rules, 0, 31, 60, 91);
        rules.monthDays(Check.set(9), 0);
        rules.monthDays(0, 0);
        Check.dueFirst("no month days", rules, 0, 31, 60, 91);
        rules.monthDays(0, Check.set(9));
        rules.monthDays(0, 0);
        Check.dueFirst("no last days", rules, 0, 31, 60, 91);
        rules.weekDays(Check.set(3), 1);
        rules.weekDays(0, 1);
        Check.dueFirst("no weekdays", rules, 0, 31, 60, 91);
    }

    /** "the number of periods from the one that has the start to it is 0": wherever in it the start lies. */
    private static void thePeriodOfTheStartCountsIn() {
        CalendarRules rules = new CalendarRules();
        rules.weekDays(0x7F, 0);
        rules.frequency(2, 20);
        for (int dayOfMonth : new int[] {1, 15, 29}) {
            rules.start(Check.day(2000, 2, dayOfMonth));
            Check.due("the month counts in", rules.between(0, 90), 30 - dayOfMonth);
            Check.due("20 months on", rules.next(91), Check.day(2001, 10, 1));
        }
        rules.frequency(3, 20);
        rules.start(Check.day(2001, 1, 1));
        Check.due("the year counts in from its first day", rules.between(0, 7304), 365);
        rules.start(Check.day(2001, 12, 31));
        Check.dueDays("from its last day", rules, Check.day(2001, 12, 31));
        rules.frequency(0, 20);
        Check.due("the day itself", rules.nth(0), Check.day(2001, 12, 31));
    }

    /** "or a positive multiple of the interval". */
    private static void multiplesOfTheIntervalCountIn() {
        CalendarRules rules = new CalendarRules();
        rules.start(Check.day(2000, 11, 15));
        rules.frequency(2, 5);
        rules.monthDays(Check.set(10, 20), 0);
        Check.dueFirst("every five months", rules, Check.day(2000, 11, 20), Check.day(2001, 4, 10),
            Check.day(2001, 4, 20), Check.day(2001, 9, 10), Check.day(2001, 9, 20), Check.day(2002, 2, 10));
        rules.frequency(3, 7);
        rules.months(Check.set(2, 12));
        Check.dueDays("every seven years", rules, Check.day(2000, 12, 10), Check.day(2000, 12, 20),
            Check.day(2007, 2, 10), Check.day(2007, 2, 20), Check.day(2007, 12, 10), Check.day(2007, 12, 20),
            Check.day(2014, 2, 10), Check.day(2014, 2, 20), Check.day(2014, 12, 10), Check.day(2014, 12, 20));
    }

    /** The last day, week, month and year count in if the interval leads there, and else do not. */
    private static void multiplesCountInUpToTheLastPeriod() {
        CalendarRules rules = new CalendarRules();
        rules.weekDays(0x7F, 0);
        // From day 0 it is 7304 days, 1044 weeks, 239 months (238 from February), 19 years to the last period.
        int[][] rows = {{0, 0, 8, 7304}, {0, 0, 9, 7299}, {0, 1, 18, 7304}, {0, 1, 17, Check.day(2019, 11, 17)},
            {31, 2, 17, 7304}, {31, 2, 16, Check.day(2018, 10, 31)}, {0, 3, 19, 7304},
            {0, 3, 18, Check.day(2018, 12, 31)}};
        for (int[] row : rows) {
            rules.start(row[0]);
            rules.frequency(row[1], row[2]);
            Check.due("last day of frequency " + row[1] + ", interval " + row[2], rules.previous(7304), row[3]);
        }
    }

    /** "the set of months is empty or has the day's month": at every frequency. */
    private static void monthsAreEmptyOrHaveTheMonth() {
        CalendarRules rules = new CalendarRules();
        rules.months(Check.set(2));
        rules.limit(0, 365);
        int[][] rows = {{0, 29, 31}, {1, 4, 35}, {2, 1, 31}, {3, 1, 31}};
        for (int[] row : rows) {
            rules.frequency(row[0], 1);
            Check.due("in February, frequency " + row[0], rules.between(0, 7304), row[1]);
            Check.due("the first of them", rules.nth(0), row[2]);
        }
    }

    /** "month days and last days are both empty, or the day of the month is in the one, or .. in the other". */
    private static void monthDaysOrLastDays() {
        CalendarRules rules = new CalendarRules();
        rules.frequency(3, 1);
        rules.months(Check.set(2));
        rules.monthDays(Check.set(29), Check.set(1));
        rules.limit(3, 7304);
        Check.dueDays("29th or last", rules, Check.day(2000, 2, 29), Check.day(2001, 2, 28), Check.day(2002, 2, 28));
        rules.monthDays(Check.set(1, 28), Check.set(29));
        Check.dueDays("1st, 28th or 29th from the end", rules,
            Check.day(2000, 2, 1), Check.day(2000, 2, 28), Check.day(2001, 2, 1));
        rules.weekDays(Check.set(2), 0);
        Check.dueDays("and a Wednesday", rules, Check.day(2001, 2, 28), Check.day(2006, 2, 1), Check.day(2007, 2, 28));
        rules.weekDays(0, 0);
        rules.monthDays(Check.set(5), 0);
        Check.dueDays("month days alone", rules, Check.day(2000, 2, 5), Check.day(2001, 2, 5), Check.day(2002, 2, 5));
        rules.monthDays(0, Check.set(5));
        Check.dueDays("last days alone", rules, Check.day(2000, 2, 25), Check.day(2001, 2, 24), Check.day(2002, 2, 24));
    }

    /** A month that is too short has no such day, nor has the next month one more. */
    private static void noSuchDayInTheMonth() {
        CalendarRules rules = new CalendarRules();
        rules.limit(0, 365);
        rules.monthDays(Check.set(30, 31), 0);
        Check.dueFirst("30th and 31st", rules, 29, 30, Check.day(2000, 3, 30), Check.day(2000, 3, 31),
            Check.day(2000, 4, 30), Check.day(2000, 5, 30));
        rules.months(Check.set(2, 4, 6, 9, 11));
        rules.monthDays(Check.set(31), Check.set(31));
        Check.dueDays("no 31st", rules);
        rules.months(Check.set(2));
        rules.monthDays(Check.set(30, 31), Check.set(30, 31));
        Check.dueDays("no 30th", rules);
    }

    private static void lastDaysOfTheLastMonth() {
        CalendarRules rules = new CalendarRules();
        rules.start(Check.day(2019, 11, 25));
        rules.frequency(2, 1);
        rules.monthDays(0, Check.set(1, 31));
        Check.dueDays("last and 31st from the end", rules,
            Check.day(2019, 11, 30), Check.day(2019, 12, 1), Check.day(2019, 12, 31));
    }

    /** "the day is the n-th of its weekday from the beginning .. or the -n-th from the end .. of its month". */
    private static void ordinalOfTheMonth() {
        CalendarRules rules = new CalendarRules();
        rules.frequency(2, 1);
        rules.limit(4, 7304);
        rules.weekDays(Check.set(1), 1);
        Check.dueDays("first Tuesdays", rules, Check.day(2000, 1, 4), Check.day(2000, 2, 1), Check.day(2000, 3, 7),
            Check.day(2000, 4, 4));
        rules.weekDays(Check.set(1), -1);
        Check.dueDays("last Tuesdays", rules, Check.day(2000, 1, 25), Check.day(2000, 2, 29), Check.day(2000, 3, 28),
            Check.day(2000, 4, 25));
        rules.weekDays(Check.set(0, 5), 2);
        Check.dueDays("second Mondays and Saturdays", rules, Check.day(2000, 1, 8), Check.day(2000, 1, 10),
            Check.day(2000, 2, 12), Check.day(2000, 2, 14));
    }

    /** A month with four of a weekday has no fifth one, from either side. */
    private static void noFifthInTheMonth() {
        CalendarRules rules = new CalendarRules();
        rules.frequency(2, 1);
        rules.limit(4, 7304);
        rules.weekDays(Check.set(1), 5);
        Check.dueDays("fifth Tuesdays", rules, Check.day(2000, 2, 29), Check.day(2000, 5, 30),
            Check.day(2000, 8, 29), Check.day(2000, 10, 31));
        rules.weekDays(Check.set(1), -5);
        Check.dueDays("fifth Tuesdays from the end", rules, Check.day(2000, 2, 1), Check.day(2000, 5, 2),
            Check.day(2000, 8, 1), Check.day(2000, 10, 3));
        rules.start(Check.day(2001, 2, 1));
        rules.limit(0, Check.day(2001, 2, 28));
        rules.weekDays(0x7F, 5);
        Check.dueDays("no fifth in 28 days", rules);
        rules.weekDays(0x7F, -5);
        Check.dueDays("nor from the end", rules);
    }

    /** "or of its year, if the frequency is yearly and the set of months is empty". */
    private static void ordinalOfTheYear() {
        CalendarRules rules = new CalendarRules();
        rules.frequency(3, 1);
        rules.limit(4, 7304);
        rules.weekDays(Check.set(0), 5);
        Check.dueDays("fifth Mondays of the year", rules, Check.day(2000, 1, 31), Check.day(2001, 1, 29),
            Check.day(2002, 2, 4), Check.day(2003, 2, 3));
        rules.weekDays(Check.set(0), -1);
        Check.dueDays("last Mondays of the year", rules, Check.day(2000, 12, 25), Check.day(2001, 12, 31),
            Check.day(2002, 12, 30), Check.day(2003, 12, 29));
        rules.weekDays(Check.set(0), -5);
        Check.dueDays("fifth Mondays from the year's end", rules, Check.day(2000, 11, 27), Check.day(2001, 12, 3),
            Check.day(2002, 12, 2), Check.day(2003, 12, 1));
        rules.monthDays(Check.set(1, 2), 0);
        Check.dueFirst("and a 1st or 2nd", rules, Check.day(2002, 12, 2), Check.day(2003, 12, 1));
    }

    /** A set of months that is not empty, be it of all months, leaves the ordinal to the month. */
    private static void ordinalOfTheMonthIfMonthsAreGiven() {
        CalendarRules rules = new CalendarRules();
        rules.frequency(3, 1);
        rules.limit(4, 7304);
        rules.months(Check.set(2, 11));
        rules.weekDays(Check.set(3), 4);
        Check.dueDays("fourth Thursdays of February and November", rules, Check.day(2000, 2, 24),
            Check.day(2000, 11, 23), Check.day(2001, 2, 22), Check.day(2001, 11, 22));
        rules.months(-1);
        rules.weekDays(Check.set(0), 1);
        Check.dueDays("first Mondays of all months", rules, 2, Check.day(2000, 2, 7), Check.day(2000, 3, 6),
            Check.day(2000, 4, 3));
        rules.months(~0x1FFE);
        Check.dueDays("no month is given", rules, 2, Check.day(2001, 1, 1), Check.day(2002, 1, 7),
            Check.day(2003, 1, 6));
    }

    private static void ordinalAtBothEndsOfTheDays() {
        CalendarRules rules = new CalendarRules();
        for (int frequency = 2; frequency <= 3; frequency++) {
            rules.frequency(frequency, 1);
            rules.weekDays(Check.set(5), 1);
            Check.due("the first Saturday", rules.nth(0), 0);
            rules.weekDays(Check.set(1), -1);
            Check.due("the last Tuesday", rules.previous(7304), 7304);
            rules.weekDays(Check.set(2), -1);
            Check.due("the last Wednesday", rules.previous(7304), Check.day(2019, 12, 25));
        }
    }

    /** "if the ordinal n is not 0 and the frequency is monthly or yearly". */
    private static void ordinalNotLookedAt() {
        CalendarRules rules = new CalendarRules();
        for (int ordinal = -5; ordinal <= 5; ordinal++) {
            rules.weekDays(Check.set(0), ordinal);
            rules.frequency(0, 1);
            Check.dueFirst("daily, ordinal " + ordinal, rules, 2, 9, 16, 23, 30, 37);
            rules.frequency(1, 1);
            Check.dueFirst("weekly, ordinal " + ordinal, rules, 2, 9, 16, 23, 30, 37);
        }
        rules.weekDays(Check.set(0), 0);
        rules.frequency(2, 1);
        Check.dueFirst("monthly, ordinal 0", rules, 2, 9, 16, 23, 30, 37);
        rules.frequency(3, 1);
        Check.dueFirst("yearly, ordinal 0", rules, 2, 9, 16, 23, 30, 37);
    }

    /** "if month days, last days and weekdays are all empty" names nothing for daily. */
    private static void likeTheStartDaily() {
        CalendarRules rules = new CalendarRules();
        rules.start(30);
        Check.dueFirst("daily", rules, 30, 31, 32);
        rules.months(Check.set(3));
        Check.dueFirst("daily in March", rules, 60, 61, 62);
    }

    /** "for weekly the day has the start's weekday". */
    private static void likeTheStartWeekly() {
        CalendarRules rules = new CalendarRules();
        for (int start = 1; start <= 8; start++) {
            rules.start(start);
            rules.frequency(1, 1);
            Check.dueFirst("weekly from " + start, rules, start, start + 7, start + 14);
        }
        rules.start(30);
        rules.frequency(1, 3);
        rules.months(Check.set(1, 3));
        Check.dueFirst("in January and March", rules, 30, 72, Check.day(2001, 1, 1),
            Check.day(2001, 1, 22), Check.day(2001, 3, 5), Check.day(2001, 3, 26));
        rules.months(0);
        rules.weekDays(0, 1);
        Check.dueFirst("an ordinal alone", rules, 30, 51, 72);
    }

    /** "for monthly its day of the month is the start's": a shorter month has none. */
    private static void likeTheStartMonthly() {
        CalendarRules rules = new CalendarRules();
        rules.start(30);
        rules.frequency(2, 1);
        Check.dueFirst("monthly on the 31st", rules, 30, Check.day(2000, 3, 31), Check.day(2000, 5, 31));
        rules.start(29);
        Check.dueFirst("monthly on the 30th", rules, 29, Check.day(2000, 3, 30), Check.day(2000, 4, 30));
        rules.months(Check.set(2));
        Check.dueDays("no February 30", rules);
    }

    /** "for yearly too, and its month is the start's unless the set of months is not empty". */
    private static void likeTheStartYearly() {
        CalendarRules rules = new CalendarRules();
        rules.start(Check.day(2000, 2, 29));
        rules.frequency(3, 1);
        Check.dueDays("yearly on February 29", rules, Check.day(2000, 2, 29), Check.day(2004, 2, 29),
            Check.day(2008, 2, 29), Check.day(2012, 2, 29), Check.day(2016, 2, 29));
        rules.months(Check.set(1, 2));
        Check.dueFirst("yearly with months", rules, Check.day(2000, 2, 29), Check.day(2001, 1, 29),
            Check.day(2002, 1, 29), Check.day(2003, 1, 29), Check.day(2004, 1, 29), Check.day(2004, 2, 29));
        rules.months(Check.set(4));
        Check.dueFirst("not the start's month", rules, Check.day(2000, 4, 29), Check.day(2001, 4, 29));
        rules.start(Check.day(2000, 3, 31));
        Check.dueDays("no April 31", rules);
    }

    /** One set that is not empty is enough for the start to have no say. */
    private static void likeTheStartOnlyIfAllAreEmpty() {
        CalendarRules rules = new CalendarRules();
        rules.start(4);
        for (int frequency = 0; frequency <= 3; frequency++) {
            rules.frequency(frequency, 1);
            rules.monthDays(Check.set(10), 0);
            Check.dueFirst("month days alone, frequency " + frequency, rules, 9, 40);
            rules.monthDays(0, Check.set(22));
            Check.dueFirst("last days alone, frequency " + frequency, rules, 9, 38);
            rules.monthDays(0, 0);
            rules.weekDays(Check.set(0), 0);
            Check.dueFirst("weekdays alone, frequency " + frequency, rules, 9, 16);
            rules.weekDays(0, 0);
        }
    }
}
