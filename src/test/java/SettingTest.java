import java.util.List;
import java.util.function.ToIntFunction;

/** Promises 1 to 10: a new object and the calls that change the rule. What is refused stands in RefusalTest. */
public final class SettingTest {
    private static final int MIN = Integer.MIN_VALUE;
    private static final int MAX = Integer.MAX_VALUE;

    public static void main(String[] args) {
        anObjectIsUsedForAtMost512Calls();
        anyCallMayBeMade512Times();
        promise1NewObject();
        promise2Start();
        promise2StartAtBothEnds();
        promise3Frequency();
        promise3FrequencyFrom0To3();
        promise3IntervalFrom1To20();
        promise4Months();
        promise4OtherBitsAreNotLookedAt();
        promise5MonthDays();
        promise5Bit0IsNotLookedAt();
        promise5HowManyInBothTogether();
        promise6WeekDays();
        promise6OtherBitsAreNotLookedAt();
        promise6OrdinalFromMinus5To5();
        promise7Position();
        promise7PositionFromMinus10To10();
        promise8Limit();
        promise8CountFrom0To500();
        promise8EndAtBothEnds();
        promise9Extra();
        promise9DayAtBothEnds();
        promise9AnyOtherHowIsNeither();
        promise9TwelveDays();
        promise9RoomAgain();
        promise10Clear();
        Check.finish();
    }

    private static void anObjectIsUsedForAtMost512Calls() {
        CalendarRules rules = new CalendarRules();
        for (int call = 1; call <= 510; call += 2) {
            Check.due("call " + call, rules.extra(call, 2), 1);
            Check.due("call " + (call + 1), rules.extra(call, 0), 0);
        }
        Check.due("call 511", rules.start(7304), 1);
        Check.due("call 512", rules.nth(0), 7304);
    }

    /** What a call answers does not wear off, whichever one it is. */
    private static void anyCallMayBeMade512Times() {
        List<ToIntFunction<CalendarRules>> calls = List.of(
            rules -> rules.start(3), rules -> rules.frequency(1, 2), rules -> rules.months(6),
            rules -> rules.monthDays(6, 2), rules -> rules.weekDays(6, 1), rules -> rules.position(1),
            rules -> rules.limit(9, 9), rules -> rules.extra(9, 2), rules -> rules.occurs(9) ? 1 : 0,
            rules -> rules.next(9), rules -> rules.previous(9), rules -> rules.nth(9), rules -> rules.between(9, 10),
            rules -> rules.weekday(9), rules -> rules.dayOf(2000, 1, 10));
        int[] due = {1, 0, 2, 3, 2, 0, 0, 1, 1, 9, 9, 9, 2, 0, 9};
        for (int i = 0; i < due.length; i++) {
            CalendarRules rules = new CalendarRules();
            for (int call = 1; call <= 512; call++) {
                Check.due("call number " + i + ", made " + call + " times", calls.get(i).applyAsInt(rules), due[i]);
            }
        }
        CalendarRules cleared = new CalendarRules();
        for (int call = 1; call <= 511; call++) {
            cleared.clear();
        }
        Check.due("all days after 511 times clear", cleared.between(0, 7304), 7305);
    }

    /** The same as an object of which every part is set to what the promise names. */
    private static void promise1NewObject() {
        CalendarRules told = new CalendarRules();
        told.start(0);
        told.frequency(0, 1);
        told.months(0);
        told.monthDays(0, 0);
        told.weekDays(0, 0);
        told.position(0);
        told.limit(0, 7304);
        Check.dueSame("new", new CalendarRules(), told);
        Check.due("all days", new CalendarRules().between(0, 7304), 7305);
        Check.due("nothing said", new CalendarRules().extra(0, 0), 0);
    }

    private static void promise2Start() {
        CalendarRules rules = new CalendarRules();
        Check.due("start(2)", rules.start(2), 0);
        Check.due("start(8)", rules.start(8), 6);
        Check.due("the start is of the rule", rules.nth(0), 8);
        Check.due("no day before the start", rules.previous(7), CalendarRules.NONE);
    }

    private static void promise2StartAtBothEnds() {
        CalendarRules rules = new CalendarRules();
        Check.due("start(7304)", rules.start(7304), 1);
        for (int frequency = 0; frequency <= 3; frequency++) {
            rules.frequency(frequency, 1);
            Check.dueDays("start at the last day, frequency " + frequency, rules, 7304);
        }
        Check.due("start(0)", rules.start(0), 5);
        rules.frequency(0, 1);
        Check.due("start at the first day", rules.between(0, 7304), 7305);
    }

    private static void promise3Frequency() {
        CalendarRules rules = new CalendarRules();
        Check.due("frequency(1, 1)", rules.frequency(1, 1), 0);
        Check.dueFirst("weekly", rules, 0, 7, 14);
        Check.due("frequency(2, 3)", rules.frequency(2, 3), 0);
        Check.dueFirst("every three months", rules, 0, Check.day(2000, 4, 1), Check.day(2000, 7, 1));
    }

    private static void promise3FrequencyFrom0To3() {
        CalendarRules rules = new CalendarRules();
        Check.due("frequency(3, 1)", rules.frequency(3, 1), 0);
        Check.dueFirst("yearly", rules, 0, Check.day(2001, 1, 1), Check.day(2002, 1, 1));
        Check.due("frequency(0, 1)", rules.frequency(0, 1), 0);
        Check.dueFirst("daily", rules, 0, 1, 2);
    }

    private static void promise3IntervalFrom1To20() {
        CalendarRules rules = new CalendarRules();
        int[][] seconds = {{1, 20}, {7, 140}, {Check.day(2000, 2, 1), Check.day(2001, 9, 1)},
            {Check.day(2001, 1, 1), CalendarRules.NONE}};
        for (int frequency = 0; frequency <= 3; frequency++) {
            Check.due("frequency(" + frequency + ", 1)", rules.frequency(frequency, 1), 0);
            Check.dueFirst("frequency " + frequency + ", interval 1", rules, 0, seconds[frequency][0]);
            Check.due("frequency(" + frequency + ", 20)", rules.frequency(frequency, 20), 0);
            Check.dueFirst("frequency " + frequency + ", interval 20", rules, 0, seconds[frequency][1]);
        }
        rules.frequency(3, 19);
        Check.dueDays("every 19 years", rules, 0, Check.day(2019, 1, 1));
    }

    private static void promise4Months() {
        CalendarRules rules = new CalendarRules();
        Check.due("months(1)", rules.months(Check.set(1)), 1);
        Check.due("only January", rules.between(0, 7304), 20 * 31);
        Check.due("months(12)", rules.months(Check.set(12)), 1);
        Check.due("December begins", rules.nth(0), Check.day(2000, 12, 1));
        Check.due("December ends", rules.previous(7304), 7304);
        Check.due("months(2, 4)", rules.months(Check.set(2, 4)), 2);
        Check.due("February and April", rules.between(0, 7304), 20 * (28 + 30) + 5);
    }

    private static void promise4OtherBitsAreNotLookedAt() {
        CalendarRules rules = new CalendarRules();
        for (int bit = 0; bit < 32; bit++) {
            boolean isMonth = bit >= 1 && bit <= 12;
            Check.due("months(bit " + bit + ")", rules.months(1 << bit), isMonth ? 1 : 0);
            Check.due("all days with bit " + bit, rules.between(0, 7304) == 7305, !isMonth);
        }
        Check.due("months(all bits)", rules.months(-1), 12);
        Check.due("all months", rules.between(0, 7304), 7305);
        Check.due("months(other bits and May)", rules.months(~0x1FFE | 1 << 5), 1);
        Check.due("only May", rules.between(0, 7304), 20 * 31);
        Check.due("months(other bits)", rules.months(~0x1FFE), 0);
        Check.due("no months are all months", rules.between(0, 7304), 7305);
    }

    private static void promise5MonthDays() {
        CalendarRules rules = new CalendarRules();
        Check.due("monthDays(31, none)", rules.monthDays(Check.set(31), 0), 1);
        Check.dueFirst("the 31st", rules, 30, Check.day(2000, 3, 31), Check.day(2000, 5, 31));
        Check.due("monthDays(1, none)", rules.monthDays(Check.set(1), 0), 1);
        Check.dueFirst("the 1st", rules, 0, 31, 60);
        Check.due("monthDays(none, 31)", rules.monthDays(0, Check.set(31)), 1);
        Check.dueFirst("31st from the end", rules, 0, Check.day(2000, 3, 1), Check.day(2000, 5, 1));
        Check.due("monthDays(none, 1)", rules.monthDays(0, Check.set(1)), 1);
        Check.dueFirst("last days", rules, 30, Check.day(2000, 2, 29), Check.day(2000, 3, 31));
        Check.due("monthDays(1, 1 2)", rules.monthDays(Check.set(1), Check.set(1, 2)), 3);
        Check.dueFirst("first, last and the one before", rules, 0, 29, 30, 31,
            Check.day(2000, 2, 28), Check.day(2000, 2, 29), Check.day(2000, 3, 1));
    }

    private static void promise5Bit0IsNotLookedAt() {
        CalendarRules rules = new CalendarRules();
        Check.due("monthDays(bit 0, bit 0)", rules.monthDays(1, 1), 0);
        Check.due("no month days are all", rules.between(0, 7304), 7305);
        Check.due("monthDays(bit 0, none)", rules.monthDays(1, 0), 0);
        Check.due("no month days are all", rules.between(0, 7304), 7305);
        Check.due("monthDays(none, bit 0)", rules.monthDays(0, 1), 0);
        Check.due("no last days are all", rules.between(0, 7304), 7305);
        Check.due("monthDays(bit 0 and 2, bit 0)", rules.monthDays(Check.set(0, 2), 1), 1);
        Check.dueFirst("the 2nd", rules, 1, 32, 61);
    }

    private static void promise5HowManyInBothTogether() {
        CalendarRules rules = new CalendarRules();
        for (int d = 1; d <= 31; d++) {
            Check.due("monthDays(" + d + ", none)", rules.monthDays(1 << d, 0), 1);
            Check.due("monthDays(none, " + d + ")", rules.monthDays(0, 1 << d), 1);
            Check.due("monthDays(" + d + ", " + d + ")", rules.monthDays(1 << d, 1 << d), 2);
        }
        Check.due("monthDays(all, all)", rules.monthDays(-1, -1), 62);
        Check.due("all month days", rules.between(0, 7304), 7305);
        Check.due("monthDays(none, none)", rules.monthDays(0, 0), 0);
    }

    private static void promise6WeekDays() {
        CalendarRules rules = new CalendarRules();
        Check.due("weekDays(0 and 6, 0)", rules.weekDays(Check.set(0, 6), 0), 2);
        Check.dueFirst("Sundays and Mondays", rules, 1, 2, 8, 9, 15);
        rules.frequency(2, 1);
        Check.due("weekDays(5, 2)", rules.weekDays(Check.set(5), 2), 1);
        Check.dueFirst("second Saturdays", rules, 7, Check.day(2000, 2, 12), Check.day(2000, 3, 11));
    }

    private static void promise6OtherBitsAreNotLookedAt() {
        CalendarRules rules = new CalendarRules();
        for (int bit = 0; bit < 32; bit++) {
            Check.due("weekDays(bit " + bit + ", 0)", rules.weekDays(1 << bit, 0), bit < 7 ? 1 : 0);
            Check.due("all days with bit " + bit, rules.between(0, 7304) == 7305, bit >= 7);
        }
        Check.due("weekDays(all bits, 0)", rules.weekDays(-1, 0), 7);
        Check.due("all weekdays", rules.between(0, 7304), 7305);
        rules.frequency(2, 1);
        Check.due("weekDays(other bits, 3)", rules.weekDays(~0x7F, 3), 0);
        Check.dueFirst("an ordinal without weekdays", rules, 0, 31, 60);
    }

    private static void promise6OrdinalFromMinus5To5() {
        CalendarRules rules = new CalendarRules();
        rules.frequency(2, 1);
        int[] januarySaturdays = {0, 7, 14, 21, 28};
        for (int ordinal = 1; ordinal <= 5; ordinal++) {
            Check.due("weekDays(5, " + ordinal + ")", rules.weekDays(Check.set(5), ordinal), 1);
            Check.due("Saturday number " + ordinal, rules.nth(0), januarySaturdays[ordinal - 1]);
            Check.due("weekDays(5, " + -ordinal + ")", rules.weekDays(Check.set(5), -ordinal), 1);
            Check.due("Saturday number " + -ordinal, rules.nth(0), januarySaturdays[5 - ordinal]);
        }
        Check.due("weekDays(5, 0)", rules.weekDays(Check.set(5), 0), 1);
        Check.dueFirst("all Saturdays", rules, 0, 7, 14, 21, 28, 35);
    }

    private static void promise7Position() {
        CalendarRules rules = new CalendarRules();
        rules.frequency(2, 1);
        rules.monthDays(Check.set(3, 5, 8), 0);
        Check.due("position(2)", rules.position(2), 0);
        Check.dueFirst("second", rules, 4, 35, 64);
        Check.due("position(-1)", rules.position(-1), 0);
        Check.dueFirst("last", rules, 7, 38, 67);
    }

    private static void promise7PositionFromMinus10To10() {
        CalendarRules rules = new CalendarRules();
        rules.frequency(2, 1);
        rules.weekDays(0x7F, 0);
        for (int p = 1; p <= 10; p++) {
            Check.due("position(" + p + ")", rules.position(p), 0);
            Check.dueFirst("days number " + p, rules, p - 1, 31 + p - 1, 60 + p - 1);
            Check.due("position(" + -p + ")", rules.position(-p), 0);
            Check.dueFirst("days number " + -p, rules, 31 - p, 60 - p, 91 - p);
        }
        Check.due("position(0)", rules.position(0), 0);
        Check.due("no position", rules.between(0, 7304), 7305);
    }

    private static void promise8Limit() {
        CalendarRules rules = new CalendarRules();
        Check.due("limit(3, 100)", rules.limit(3, 100), 0);
        Check.dueDays("count 3", rules, 0, 1, 2);
        Check.due("limit(3, 1)", rules.limit(3, 1), 0);
        Check.dueDays("the end before the count", rules, 0, 1);
    }

    private static void promise8CountFrom0To500() {
        CalendarRules rules = new CalendarRules();
        Check.due("limit(1, 7304)", rules.limit(1, 7304), 0);
        Check.dueDays("count 1", rules, 0);
        Check.due("limit(500, 7304)", rules.limit(500, 7304), 0);
        Check.due("500 days", rules.between(0, 7304), 500);
        Check.due("the last of 500", rules.previous(7304), 499);
        Check.due("limit(0, 7304)", rules.limit(0, 7304), 0);
        Check.due("count 0 is no limit", rules.between(0, 7304), 7305);
    }

    private static void promise8EndAtBothEnds() {
        CalendarRules rules = new CalendarRules();
        Check.due("limit(0, 0)", rules.limit(0, 0), 0);
        Check.dueDays("end 0", rules, 0);
        Check.due("limit(0, 7303)", rules.limit(0, 7303), 0);
        Check.due("end 7303", rules.previous(7304), 7303);
        Check.due("limit(0, 7304)", rules.limit(0, 7304), 0);
        Check.due("end 7304", rules.previous(7304), 7304);
    }

    private static void promise9Extra() {
        CalendarRules rules = new CalendarRules();
        rules.limit(3, 7304);
        Check.due("extra(1, 2)", rules.extra(1, 2), 1);
        Check.dueDays("an excluded day", rules, 0, 2);
        Check.due("extra(70, 1)", rules.extra(70, 1), 2);
        Check.dueDays("an included day", rules, 0, 2, 70);
        Check.due("said again", rules.extra(70, 1), 2);
        Check.due("a day of the series included", rules.extra(0, 1), 3);
        Check.dueDays("it stands once", rules, 0, 2, 70);
        Check.due("excluded becomes included", rules.extra(1, 1), 3);
        Check.dueDays("included", rules, 0, 1, 2, 70);
        Check.due("included becomes excluded", rules.extra(70, 2), 3);
        Check.dueDays("excluded", rules, 0, 1, 2);
        Check.due("extra(0, 0)", rules.extra(0, 0), 2);
        Check.dueDays("back to the series", rules, 0, 1, 2);
    }

    private static void promise9DayAtBothEnds() {
        CalendarRules rules = new CalendarRules();
        rules.position(2);
        Check.due("extra(0, 1)", rules.extra(0, 1), 1);
        Check.due("extra(7304, 1)", rules.extra(7304, 1), 2);
        Check.dueDays("both ends included", rules, 0, 7304);
        rules.position(0);
        Check.due("extra(0, 2)", rules.extra(0, 2), 2);
        Check.due("extra(7304, 2)", rules.extra(7304, 2), 2);
        Check.due("the first end excluded", rules.next(0), 1);
        Check.due("the last end excluded", rules.previous(7304), 7303);
    }

    private static void promise9AnyOtherHowIsNeither() {
        CalendarRules rules = new CalendarRules();
        rules.limit(2, 7304);
        rules.extra(5, 1);
        for (int neither : new int[] {0, 3, -1, -2, 257, 258, -255, 65537, MIN, MAX}) {
            Check.due("extra(1, 2)", rules.extra(1, 2), 2);
            Check.due("extra(1, " + neither + ")", rules.extra(1, neither), 1);
            Check.dueDays("no longer excluded", rules, 0, 1, 5);
            Check.due("extra(9, 1)", rules.extra(9, 1), 2);
            Check.due("extra(9, " + neither + ")", rules.extra(9, neither), 1);
            Check.dueDays("no longer included", rules, 0, 1, 5);
            Check.due("nothing was said", rules.extra(20, neither), 1);
        }
    }

    /** Twelve days are said something of; the thirteenth is refused in RefusalTest. */
    private static CalendarRules withTwelve() {
        CalendarRules rules = new CalendarRules();
        rules.limit(0, 0);
        for (int i = 0; i < 12; i++) {
            Check.due("extra number " + (i + 1), rules.extra(100 + i, i % 2 == 0 ? 1 : 2), i + 1);
        }
        return rules;
    }

    private static void promise9TwelveDays() {
        CalendarRules rules = withTwelve();
        Check.dueDays("six of twelve", rules, 0, 100, 102, 104, 106, 108, 110);
        Check.due("the same again", rules.extra(111, 2), 12);
        Check.due("the other of the last one", rules.extra(111, 1), 12);
        Check.due("the other of the first one", rules.extra(100, 2), 12);
        Check.due("neither of a thirteenth", rules.extra(200, 0), 12);
        Check.dueDays("changed", rules, 0, 102, 104, 106, 108, 110, 111);
    }

    private static void promise9RoomAgain() {
        CalendarRules rules = withTwelve();
        Check.due("a thirteenth", rules.extra(200, 1), CalendarRules.FULL);
        Check.due("one of the twelve taken back", rules.extra(100, 0), 11);
        Check.due("room again", rules.extra(200, 1), 12);
        Check.due("full again", rules.extra(100, 1), CalendarRules.FULL);
        Check.dueDays("included", rules, 0, 102, 104, 106, 108, 110, 200);
        rules.clear();
        Check.due("room after clear", rules.extra(1, 2), 1);
    }

    private static void promise10Clear() {
        CalendarRules rules = new CalendarRules();
        rules.start(500);
        rules.frequency(3, 2);
        rules.months(Check.set(3));
        rules.monthDays(Check.set(4), Check.set(5));
        rules.weekDays(Check.set(0), 2);
        rules.position(2);
        rules.limit(1, 3000);
        for (int i = 0; i < 11; i++) {
            rules.extra(i * 600, i % 2 == 0 ? 2 : 1);
        }
        rules.extra(7304, 1);
        rules.clear();
        Check.dueSame("cleared", rules, new CalendarRules());
        rules.clear();
        Check.due("all days after a second clear", rules.between(0, 7304), 7305);
    }
}
