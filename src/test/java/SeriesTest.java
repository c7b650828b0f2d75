/** The terms from the position on, seen through the days of the rule: position, series, excluded and included days. */
public final class SeriesTest {
    public static void main(String[] args) {
        positionOfADay();
        positionInPeriods();
        positionWithTooFewCandidates();
        positionCountsCandidatesBeforeTheStart();
        positionCountsCandidatesAfterTheEnd();
        positionInCutWeeks();
        atOrAfterTheStart();
        notAfterTheEnd();
        endBeforeTheStart();
        atMost7304();
        onlyThatManyFirstOnes();
        countOfAllThereAre();
        countComesAfterStartAndPosition();
        excludedDays();
        excludedDaysUseUpTheCount();
        includedWhereverTheyLie();
        saidOfADayOutlastsTheRule();
        Check.finish();
    }

    /** A day has one candidate at most. */
    private static void positionOfADay() {
        CalendarRules rules = new CalendarRules();
        rules.position(1);
        Check.due("daily, first", rules.between(0, 7304), 7305);
        rules.position(-1);
        Check.due("daily, last", rules.between(0, 7304), 7305);
        rules.position(2);
        Check.due("daily, second", rules.between(0, 7304), 0);
        rules.position(-2);
        Check.due("daily, second from the last", rules.between(0, 7304), 0);
    }

    /** "only the p-th candidate of each period (in ascending order; for p below 0 the -p-th from the last one)". */
    private static void positionInPeriods() {
        CalendarRules rules = new CalendarRules();
        rules.frequency(2, 1);
        rules.weekDays(0x1F, 0);
        rules.position(-1);
        Check.dueFirst("last working days", rules, 30, Check.day(2000, 2, 29), Check.day(2000, 3, 31),
            Check.day(2000, 4, 28));
        rules.position(3);
        Check.dueFirst("third working days", rules, 4, Check.day(2000, 2, 3), Check.day(2000, 3, 3));
        rules.frequency(3, 1);
        rules.weekDays(0, 0);
        rules.monthDays(Check.set(13), 0);
        rules.position(10);
        Check.dueFirst("tenth 13th of the year", rules, Check.day(2000, 10, 13), Check.day(2001, 10, 13));
        rules.position(-10);
        Check.dueFirst("tenth from the last", rules, Check.day(2000, 3, 13), Check.day(2001, 3, 13));
    }

    /** A period with just as many candidates has the one at its edge; one with fewer has none. */
    private static void positionWithTooFewCandidates() {
        CalendarRules rules = new CalendarRules();
        rules.frequency(2, 1);
        rules.weekDays(Check.set(5), 0);
        rules.position(5);
        Check.dueFirst("months with five Saturdays", rules, 28, Check.day(2000, 4, 29), Check.day(2000, 7, 29));
        rules.position(-5);
        Check.dueFirst("the same from the last", rules, 0, Check.day(2000, 4, 1), Check.day(2000, 7, 1));
        rules.position(6);
        Check.dueDays("no sixth", rules);
        rules.position(-6);
        Check.dueDays("nor from the last", rules);
    }

    /** "A day .. (also one before the start) is a CANDIDATE": it takes its place in the start's period. */
    private static void positionCountsCandidatesBeforeTheStart() {
        CalendarRules rules = new CalendarRules();
        rules.start(Check.day(2000, 3, 15));
        rules.frequency(2, 1);
        rules.monthDays(Check.set(10, 20, 25), 0);
        rules.position(1);
        Check.dueFirst("first is before the start", rules, Check.day(2000, 4, 10), Check.day(2000, 5, 10));
        rules.position(2);
        Check.dueFirst("second is behind it", rules, Check.day(2000, 3, 20), Check.day(2000, 4, 20));
        rules.position(-3);
        Check.dueFirst("third from the last is before it", rules, Check.day(2000, 4, 10));
        rules.start(Check.day(2000, 3, 10));
        rules.position(1);
        Check.dueFirst("first is the start", rules, Check.day(2000, 3, 10), Check.day(2000, 4, 10));
        rules.frequency(1, 1);
        rules.monthDays(0, 0);
        rules.weekDays(0x7F, 0);
        Check.dueFirst("Monday is before the start", rules, Check.day(2000, 3, 13), Check.day(2000, 3, 20));
        rules.frequency(3, 1);
        Check.dueFirst("New Year is before the start", rules, Check.day(2001, 1, 1), Check.day(2002, 1, 1));
    }

    private static void positionCountsCandidatesAfterTheEnd() {
        CalendarRules rules = new CalendarRules();
        rules.start(Check.day(2000, 3, 1));
        rules.frequency(2, 1);
        rules.monthDays(Check.set(10, 20, 25), 0);
        rules.limit(0, Check.day(2000, 4, 22));
        rules.position(-1);
        Check.dueDays("last is after the end", rules, Check.day(2000, 3, 25));
        rules.position(-2);
        Check.dueDays("the one before is not", rules, Check.day(2000, 3, 20), Check.day(2000, 4, 20));
    }

    /** "A day from 0 to 7304 of such a period": the first and the last week have two such days each. */
    private static void positionInCutWeeks() {
        CalendarRules rules = new CalendarRules();
        rules.frequency(1, 1);
        rules.weekDays(0x7F, 0);
        rules.position(2);
        Check.dueFirst("the first week has two days", rules, 1, 3, 10);
        Check.due("the last week has two days", rules.previous(7304), 7304);
        rules.position(-2);
        Check.dueFirst("from the end", rules, 0, 7, 14);
        Check.due("the last week from the end", rules.previous(7304), 7303);
        rules.position(3);
        Check.dueFirst("no third in the first week", rules, 4, 11);
        Check.due("no third in the last week", rules.previous(7304), 7298);
        rules.position(-3);
        Check.dueFirst("nor from the end in the first week", rules, 6, 13);
        Check.due("nor from the end in the last week", rules.previous(7304), 7300);
    }

    /** "at or after the start": at every frequency. */
    private static void atOrAfterTheStart() {
        CalendarRules rules = new CalendarRules();
        rules.weekDays(0x7F, 0);
        for (int frequency = 0; frequency <= 3; frequency++) {
            rules.frequency(frequency, 1);
            rules.start(100);
            Check.due("at the start, frequency " + frequency, rules.next(0), 100);
            Check.due("before the start", rules.occurs(99), false);
        }
        rules.weekDays(Check.set(0), 0);
        Check.due("a Tuesday as start", rules.start(101), 1);
        Check.due("is no Monday, so the first day is after it", rules.nth(0), 107);
    }

    /** "not after the end". */
    private static void notAfterTheEnd() {
        CalendarRules rules = new CalendarRules();
        rules.start(100);
        rules.frequency(0, 10);
        rules.limit(0, 120);
        Check.dueDays("the end is of the series", rules, 100, 110, 120);
        rules.limit(0, 119);
        Check.dueDays("the end before the third", rules, 100, 110);
        rules.limit(0, 121);
        Check.dueDays("the end behind the third", rules, 100, 110, 120);
    }

    private static void endBeforeTheStart() {
        CalendarRules rules = new CalendarRules();
        rules.start(100);
        rules.limit(0, 100);
        Check.dueDays("the end at the start", rules, 100);
        rules.limit(0, 99);
        Check.dueDays("the end before the start", rules);
        rules.limit(500, 0);
        Check.dueDays("the end at the first day", rules);
    }

    /** "and at most 7304". */
    private static void atMost7304() {
        CalendarRules rules = new CalendarRules();
        rules.start(7300);
        rules.frequency(0, 2);
        Check.dueDays("up to the last day", rules, 7300, 7302, 7304);
        rules.frequency(0, 3);
        Check.dueDays("up to the one before", rules, 7300, 7303);
        rules.limit(500, 7304);
        Check.dueDays("a count of more", rules, 7300, 7303);
    }

    /** "if the count is not 0, only that many first ones". */
    private static void onlyThatManyFirstOnes() {
        CalendarRules rules = new CalendarRules();
        rules.start(100);
        rules.frequency(0, 10);
        rules.limit(1, 7304);
        Check.dueDays("one", rules, 100);
        rules.limit(2, 7304);
        Check.dueDays("two", rules, 100, 110);
        rules.limit(500, 7304);
        Check.due("500", rules.between(0, 7304), 500);
        Check.due("the last of 500", rules.previous(7304), 100 + 499 * 10);
        rules.limit(0, 7304);
        Check.due("count 0 is no limit", rules.between(0, 7304), 721);
    }

    private static void countOfAllThereAre() {
        CalendarRules rules = new CalendarRules();
        rules.frequency(0, 10);
        for (int count = 2; count <= 4; count++) {
            rules.limit(count, 20);
            Check.due("three days, count " + count, rules.between(0, 7304), count < 3 ? count : 3);
        }
    }

    /** What is before the start or does not stay for the position does not use up the count. */
    private static void countComesAfterStartAndPosition() {
        CalendarRules rules = new CalendarRules();
        rules.start(Check.day(2000, 3, 15));
        rules.frequency(2, 1);
        rules.monthDays(Check.set(10, 20, 25), 0);
        rules.limit(3, 7304);
        Check.dueDays("not the 10th", rules, Check.day(2000, 3, 20), Check.day(2000, 3, 25), Check.day(2000, 4, 10));
        rules.position(3);
        Check.dueDays("only the 25th", rules, Check.day(2000, 3, 25), Check.day(2000, 4, 25), Check.day(2000, 5, 25));
    }

    /** "THE DAYS OF THE RULE are the series without the days EXCLUDED". */
    private static void excludedDays() {
        CalendarRules rules = new CalendarRules();
        rules.limit(0, 3);
        rules.extra(0, 2);
        rules.extra(3, 2);
        Check.dueDays("both ends excluded", rules, 1, 2);
        rules.extra(4, 2);
        Check.dueDays("one that is not of the series", rules, 1, 2);
        rules.extra(1, 2);
        rules.extra(2, 2);
        Check.dueDays("all excluded", rules);
    }

    /** The count is of the series, and the series is made before days are excluded or included. */
    private static void excludedDaysUseUpTheCount() {
        CalendarRules rules = new CalendarRules();
        rules.start(100);
        rules.frequency(0, 10);
        rules.limit(2, 7304);
        rules.extra(100, 2);
        Check.dueDays("one excluded", rules, 110);
        rules.extra(110, 2);
        Check.dueDays("both excluded", rules);
        rules.extra(100, 1);
        rules.extra(105, 1);
        rules.extra(110, 0);
        Check.dueDays("included days do not", rules, 100, 105, 110);
        rules.extra(100, 2);
        rules.limit(3, 7304);
        Check.dueDays("said before the count is set", rules, 105, 110, 120);
    }

    /** "and all days INCLUDED besides (wherever they lie)". */
    private static void includedWhereverTheyLie() {
        CalendarRules rules = new CalendarRules();
        rules.start(50);
        rules.frequency(0, 20);
        rules.months(Check.set(2, 3));
        rules.limit(2, 80);
        rules.extra(0, 1);
        Check.dueDays("before the start", rules, 0, 50, 70);
        rules.extra(60, 1);
        Check.dueDays("of a period that does not count in", rules, 0, 50, 60, 70);
        rules.extra(90, 1);
        Check.dueDays("behind the end and the count", rules, 0, 50, 60, 70, 90);
        rules.extra(7304, 1);
        Check.dueDays("the last day, in no month of the set", rules, 0, 50, 60, 70, 90, 7304);
        rules.extra(50, 1);
        Check.dueDays("one of the series stands once", rules, 0, 50, 60, 70, 90, 7304);
    }

    private static void saidOfADayOutlastsTheRule() {
        CalendarRules rules = new CalendarRules();
        rules.limit(0, 20);
        rules.extra(30, 1);
        rules.extra(10, 2);
        rules.frequency(0, 5);
        Check.dueDays("another interval", rules, 0, 5, 15, 20, 30);
        rules.start(5);
        Check.dueDays("another start", rules, 5, 15, 20, 30);
        rules.position(2);
        Check.dueDays("no series", rules, 30);
        rules.position(0);
        rules.limit(0, 12);
        Check.dueDays("another end", rules, 5, 30);
    }
}
