/** The terms of the document: periods, candidates, the position, the series, seen through the days of the rule. */
public final class TermsTest {
    public static void main(String[] args) {
        weeksBeginOnMonday();
        monthsAndYearsCountIn();
        daysOfTheStart();
        monthDaysOrLastDays();
        lastDaysOfTheLastMonth();
        ordinalOfTheMonth();
        ordinalOfTheYear();
        ordinalNotLookedAt();
        positionInPeriods();
        positionBeforeTheStart();
        positionAfterTheEnd();
        positionInCutWeeks();
        countAndEnd();
        includedWhereverTheyLie();
        Check.finish();
    }

    private static void weeksBeginOnMonday() {
        CalendarRules rules = new CalendarRules();
        rules.frequency(1, 2);
        rules.weekDays(0x7F, 0);
        Check.dueFirst("every second week from Saturday", rules, 0, 1, 9, 10, 11, 12, 13, 14, 15, 23);
        rules.start(2);
        Check.dueFirst("from Monday", rules, 2, 3, 4, 5, 6, 7, 8, 16);
        rules.start(8);
        Check.dueFirst("from Sunday", rules, 8, 16, 17);
    }

    private static void monthsAndYearsCountIn() {
        CalendarRules rules = new CalendarRules();
        rules.start(Check.day(2000, 11, 15));
        rules.frequency(2, 5);
        rules.monthDays(Check.set(10, 20), 0);
        Check.dueFirst("every five months", rules, Check.day(2000, 11, 20), Check.day(2001, 4, 10),
            Check.day(2001, 4, 20), Check.day(2001, 9, 10), Check.day(2001, 9, 20), Check.day(2002, 2, 10));
        rules.frequency(3, 7);
        rules.months(Check.set(2, 12));
        Check.dueDays("every seven years", rules, Check.day(2000, 12, 10), Check.day(2000, 12, 20),
            Check.day(2007, 2, 10), Check.day(2007, 2, 20), Check.day(2007, 12, 10), Check.day(2007, 12, 20),
            Check.day(2014, 2, 10), Check.day(2014, 2, 20), Check.day(2014, 12, 10), Check.day(2014, 12, 20));
        rules.frequency(3, 20);
        Check.dueDays("every 20 years", rules, Check.day(2000, 12, 10), Check.day(2000, 12, 20));
    }

    private static void daysOfTheStart() {
        CalendarRules rules = new CalendarRules();
        rules.start(Check.day(2000, 2, 29));
        rules.frequency(3, 1);
        Check.dueDays("yearly on February 29", rules, Check.day(2000, 2, 29), Check.day(2004, 2, 29),
            Check.day(2008, 2, 29), Check.day(2012, 2, 29), Check.day(2016, 2, 29));
        rules.months(Check.set(1, 2));
        Check.dueFirst("yearly with months", rules, Check.day(2000, 2, 29), Check.day(2001, 1, 29),
            Check.day(2002, 1, 29), Check.day(2003, 1, 29), Check.day(2004, 1, 29), Check.day(2004, 2, 29));
        rules.months(0);
        rules.start(30);
        rules.frequency(2, 1);
        Check.dueFirst("monthly on the 31st", rules, 30, Check.day(2000, 3, 31), Check.day(2000, 5, 31));
        rules.frequency(1, 3);
        rules.months(Check.set(1, 3));
        Check.dueFirst("weekly on the start's weekday", rules, 30, 72, Check.day(2001, 1, 1),
            Check.day(2001, 1, 22), Check.day(2001, 3, 5), Check.day(2001, 3, 26));
        rules.months(0);
        rules.weekDays(0, 1);
        Check.dueFirst("an ordinal alone", rules, 30, 51, 72);
    }

    private static void monthDaysOrLastDays() {
        CalendarRules rules = new CalendarRules();
        rules.frequency(3, 1);
        rules.months(Check.set(2));
        rules.monthDays(Check.set(29), Check.set(1));
        rules.limit(3, 7304);
        Check.dueDays("29th or last", rules, Check.day(2000, 2, 29), Check.day(2001, 2, 28), Check.day(2002, 2, 28));
        rules.monthDays(Check.set(1, 28), Check.set(29));
        Check.dueDays("1st, 28th or 29th from the end", rules,
            Check.day(2000, 2, 1), Check.day(2000, 2, 28), Check.day(2001, 2, 1));
        rules.weekDays(Check.set(2), 0);
        Check.dueDays("and a Wednesday", rules, Check.day(2001, 2, 28), Check.day(2006, 2, 1), Check.day(2007, 2, 28));
    }

    private static void lastDaysOfTheLastMonth() {
        CalendarRules rules = new CalendarRules();
        rules.start(Check.day(2019, 11, 25));
        rules.frequency(2, 1);
        rules.monthDays(0, Check.set(1, 31));
        Check.dueDays("last and 31st from the end", rules,
            Check.day(2019, 11, 30), Check.day(2019, 12, 1), Check.day(2019, 12, 31));
        rules.monthDays(0, 0);
        rules.weekDays(Check.set(1), -1);
        Check.dueDays("last Tuesdays", rules, Check.day(2019, 11, 26), Check.day(2019, 12, 31));
    }

    private static void ordinalOfTheMonth() {
        CalendarRules rules = new CalendarRules();
        rules.frequency(2, 1);
        rules.limit(4, 7304);
        rules.weekDays(Check.set(1), 1);
        Check.dueDays("first Tuesdays", rules, Check.day(2000, 1, 4), Check.day(2000, 2, 1), Check.day(2000, 3, 7),
            Check.day(2000, 4, 4));
        rules.weekDays(Check.set(1), -1);
        Check.dueDays("last Tuesdays", rules, Check.day(2000, 1, 25), Check.day(2000, 2, 29), Check.day(2000, 3, 28),
            Check.day(2000, 4, 25));
        rules.weekDays(Check.set(1), -5);
        Check.dueDays("fifth Tuesdays from the end", rules, Check.day(2000, 2, 1), Check.day(2000, 5, 2),
            Check.day(2000, 8, 1), Check.day(2000, 10, 3));
        rules.weekDays(Check.set(0, 5), 2);
        Check.dueDays("second Mondays and Saturdays", rules, Check.day(2000, 1, 8), Check.day(2000, 1, 10),
            Check.day(2000, 2, 12), Check.day(2000, 2, 14));
        rules.frequency(3, 1);
        rules.months(Check.set(2, 11));
        rules.weekDays(Check.set(3), 4);
        Check.dueDays("fourth Thursdays of February and November", rules, Check.day(2000, 2, 24),
            Check.day(2000, 11, 23), Check.day(2001, 2, 22), Check.day(2001, 11, 22));
    }

    private static void ordinalOfTheYear() {
        CalendarRules rules = new CalendarRules();
        rules.frequency(3, 1);
        rules.limit(4, 7304);
        rules.weekDays(Check.set(0), 5);
        Check.dueDays("fifth Mondays of the year", rules, Check.day(2000, 1, 31), Check.day(2001, 1, 29),
            Check.day(2002, 2, 4), Check.day(2003, 2, 3));
        rules.weekDays(Check.set(0), -1);
        Check.dueDays("last Mondays of the year", rules, Check.day(2000, 12, 25), Check.day(2001, 12, 31),
            Check.day(2002, 12, 30), Check.day(2003, 12, 29));
        rules.weekDays(Check.set(0), -5);
        Check.dueDays("fifth Mondays from the year's end", rules, Check.day(2000, 11, 27), Check.day(2001, 12, 3),
            Check.day(2002, 12, 2), Check.day(2003, 12, 1));
        rules.monthDays(Check.set(1, 2), 0);
        Check.dueFirst("and a 1st or 2nd", rules, Check.day(2002, 12, 2), Check.day(2003, 12, 1));
    }

    private static void ordinalNotLookedAt() {
        CalendarRules rules = new CalendarRules();
        rules.weekDays(Check.set(0), 3);
        Check.dueFirst("daily", rules, 2, 9, 16, 23, 30, 37);
        rules.frequency(1, 1);
        Check.dueFirst("weekly", rules, 2, 9, 16, 23, 30, 37);
    }

    private static void positionInPeriods() {
        CalendarRules rules = new CalendarRules();
        rules.position(1);
        Check.due("daily, first", rules.between(0, 7304), 7305);
        rules.position(-1);
        Check.due("daily, last", rules.between(0, 7304), 7305);
        rules.position(2);
        Check.due("daily, second", rules.between(0, 7304), 0);
        rules.position(-2);
        Check.due("daily, second from the last", rules.between(0, 7304), 0);
        rules.frequency(2, 1);
        rules.weekDays(0x1F, 0);
        rules.position(-1);
        Check.dueFirst("last working days", rules, 30, Check.day(2000, 2, 29), Check.day(2000, 3, 31),
            Check.day(2000, 4, 28));
        rules.position(3);
        Check.dueFirst("third working days", rules, 4, Check.day(2000, 2, 3), Check.day(2000, 3, 3));
        rules.frequency(3, 1);
        rules.weekDays(0, 0);
        rules.monthDays(Check.set(13), 0);
        rules.position(10);
        Check.dueFirst("tenth 13th of the year", rules, Check.day(2000, 10, 13), Check.day(2001, 10, 13));
        rules.position(-10);
        Check.dueFirst("tenth from the last", rules, Check.day(2000, 3, 13), Check.day(2001, 3, 13));
        rules.frequency(2, 1);
        rules.position(2);
        Check.due("too few candidates", rules.between(0, 7304), 0);
    }

    private static void positionBeforeTheStart() {
        CalendarRules rules = new CalendarRules();
        rules.start(Check.day(2000, 3, 15));
        rules.frequency(2, 1);
        rules.monthDays(Check.set(10, 20, 25), 0);
        rules.position(1);
        Check.dueFirst("first is before the start", rules, Check.day(2000, 4, 10), Check.day(2000, 5, 10));
        rules.position(2);
        Check.dueFirst("second is behind it", rules, Check.day(2000, 3, 20), Check.day(2000, 4, 20));
        rules.position(-3);
        Check.dueFirst("third from the last is before it", rules, Check.day(2000, 4, 10));
    }

    private static void positionAfterTheEnd() {
        CalendarRules rules = new CalendarRules();
        rules.start(Check.day(2000, 3, 1));
        rules.frequency(2, 1);
        rules.monthDays(Check.set(10, 20, 25), 0);
        rules.limit(0, Check.day(2000, 4, 22));
        rules.position(-1);
        Check.dueDays("last is after the end", rules, Check.day(2000, 3, 25));
        rules.position(-2);
        Check.dueDays("the one before is not", rules, Check.day(2000, 3, 20), Check.day(2000, 4, 20));
    }

    private static void positionInCutWeeks() {
        CalendarRules rules = new CalendarRules();
        rules.frequency(1, 1);
        rules.weekDays(0x7F, 0);
        rules.position(2);
        Check.dueFirst("the first week has two days", rules, 1, 3, 10);
        Check.due("the last week has two days", rules.previous(7304), 7304);
        rules.position(-2);
        Check.dueFirst("from the end", rules, 0, 7, 14);
        Check.due("the last week from the end", rules.previous(7304), 7303);
        rules.position(3);
        Check.dueFirst("no third in the first week", rules, 4, 11);
        Check.due("no third in the last week", rules.previous(7304), 7298);
    }

    private static void countAndEnd() {
        CalendarRules rules = new CalendarRules();
        rules.start(100);
        rules.frequency(0, 10);
        rules.limit(0, 120);
        Check.dueDays("the end is of the series", rules, 100, 110, 120);
        rules.limit(2, 120);
        Check.dueDays("the count", rules, 100, 110);
        rules.limit(0, 99);
        Check.dueDays("the end before the start", rules);
        rules.limit(0, 100);
        Check.dueDays("the end at the start", rules, 100);
        rules.limit(2, 7304);
        rules.extra(100, 2);
        rules.extra(110, 2);
        Check.dueDays("excluded days use up the count", rules);
        rules.extra(100, 1);
        rules.extra(105, 1);
        rules.extra(110, 0);
        Check.dueDays("included days do not", rules, 100, 105, 110);
    }

    private static void includedWhereverTheyLie() {
        CalendarRules rules = new CalendarRules();
        rules.start(50);
        rules.frequency(0, 20);
        rules.limit(2, 80);
        rules.extra(0, 1);
        rules.extra(60, 1);
        rules.extra(7304, 1);
        Check.dueDays("before, within and behind", rules, 0, 50, 60, 70, 7304);
        rules.start(60);
        rules.frequency(0, 5);
        Check.dueDays("they stay when the rule changes", rules, 0, 60, 65, 7304);
    }
}
