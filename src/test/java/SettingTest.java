/** Promises 1 to 10: a new object and the calls that change the rule. */
public final class SettingTest {
    private static final int MIN = Integer.MIN_VALUE;
    private static final int MAX = Integer.MAX_VALUE;

    public static void main(String[] args) {
        promise1NewObject();
        promise2Start();
        promise3Frequency();
        promise4Months();
        promise5MonthDays();
        promise6WeekDays();
        promise7Position();
        promise8Limit();
        promise9Extra();
        promise9ExtraFull();
        promise10Clear();
        Check.finish();
    }

    private static void promise1NewObject() {
        dueNew("new", new CalendarRules());
    }

    private static void promise2Start() {
        CalendarRules rules = new CalendarRules();
        Check.due("start(0)", rules.start(0), 5);
        Check.due("start(7304)", rules.start(7304), 1);
        Check.dueDays("start at the last day", rules, 7304);
        Check.due("start(2)", rules.start(2), 0);
        Check.due("start(8)", rules.start(8), 6);
        for (int bad : new int[] {-1, 7305, MIN, MAX}) {
            Check.due("start(" + bad + ")", rules.start(bad), CalendarRules.BAD_DAY);
            Check.due("the start stays", rules.nth(0), 8);
        }
        Check.due("no day before the start", rules.previous(7), CalendarRules.NONE);
    }

    private static void promise3Frequency() {
        CalendarRules rules = new CalendarRules();
        Check.due("frequency(0, 20)", rules.frequency(0, 20), 0);
        Check.dueFirst("every 20 days", rules, 0, 20, 40);
        Check.due("frequency(3, 1)", rules.frequency(3, 1), 0);
        Check.dueFirst("yearly", rules, 0, Check.day(2001, 1, 1), Check.day(2002, 1, 1));
        Check.due("frequency(1, 1)", rules.frequency(1, 1), 0);
        Check.dueFirst("weekly", rules, 0, 7, 14);
        Check.due("frequency(2, 3)", rules.frequency(2, 3), 0);
        int[][] bad = {{-1, 1}, {4, 1}, {0, 0}, {0, 21}, {3, -1}, {4, 21}, {MIN, 1}, {MAX, 1}, {1, MIN}, {1, MAX}};
        for (int[] pair : bad) {
            Check.due("frequency(" + pair[0] + ", " + pair[1] + ")",
                rules.frequency(pair[0], pair[1]), CalendarRules.BAD_NUMBER);
            Check.dueFirst("every three months stays", rules, 0, Check.day(2000, 4, 1), Check.day(2000, 7, 1));
        }
    }

    private static void promise4Months() {
        CalendarRules rules = new CalendarRules();
        Check.due("months(all bits)", rules.months(-1), 12);
        Check.due("all months", rules.between(0, 7304), 7305);
        Check.due("months(1)", rules.months(Check.set(1)), 1);
        Check.due("only January", rules.between(0, 7304), 20 * 31);
        Check.due("months(12)", rules.months(Check.set(12)), 1);
        Check.due("December begins", rules.nth(0), Check.day(2000, 12, 1));
        Check.due("months(2, 4)", rules.months(Check.set(2, 4)), 2);
        Check.due("February and April", rules.between(0, 7304), 20 * (28 + 30) + 5);
        Check.due("months(bits not looked at)", rules.months(~0x1FFE), 0);
        Check.due("no months are all months", rules.between(0, 7304), 7305);
    }

    private static void promise5MonthDays() {
        CalendarRules rules = new CalendarRules();
        Check.due("monthDays(all, all)", rules.monthDays(-1, -1), 62);
        Check.due("all month days", rules.between(0, 7304), 7305);
        Check.due("monthDays(31, none)", rules.monthDays(Check.set(31), 0), 1);
        Check.dueFirst("the 31st", rules, 30, Check.day(2000, 3, 31), Check.day(2000, 5, 31));
        Check.due("monthDays(none, 31)", rules.monthDays(0, Check.set(31)), 1);
        Check.dueFirst("31st from the end", rules, 0, Check.day(2000, 3, 1), Check.day(2000, 5, 1));
        Check.due("monthDays(none, 1)", rules.monthDays(0, Check.set(1)), 1);
        Check.dueFirst("last days", rules, 30, Check.day(2000, 2, 29), Check.day(2000, 3, 31));
        Check.due("monthDays(1, 1 2)", rules.monthDays(Check.set(1), Check.set(1, 2)), 3);
        Check.dueFirst("first, last and the one before", rules, 0, 29, 30, 31,
            Check.day(2000, 2, 28), Check.day(2000, 2, 29), Check.day(2000, 3, 1));
        Check.due("monthDays(bit 0, bit 0)", rules.monthDays(1, 1), 0);
        Check.due("no month days are all", rules.between(0, 7304), 7305);
        Check.due("the same day in both counts twice", rules.monthDays(Check.set(0, 5), Check.set(0, 5)), 2);
    }

    private static void promise6WeekDays() {
        CalendarRules rules = new CalendarRules();
        Check.due("weekDays(all bits, 0)", rules.weekDays(-1, 0), 7);
        Check.due("all weekdays", rules.between(0, 7304), 7305);
        Check.due("weekDays(0 and 6, -5)", rules.weekDays(Check.set(0, 6), -5), 2);
        Check.dueFirst("daily: the ordinal is not looked at", rules, 1, 2, 8, 9, 15);
        for (int bad : new int[] {-6, 6, MIN, MAX}) {
            Check.due("weekDays(3, " + bad + ")", rules.weekDays(Check.set(3), bad), CalendarRules.BAD_NUMBER);
            Check.dueFirst("the weekdays stay", rules, 1, 2, 8, 9, 15);
        }
        rules.frequency(2, 1);
        Check.due("the ordinal stays", rules.nth(0), Check.day(2000, 1, 2));
        Check.due("weekDays(5, 5)", rules.weekDays(Check.set(5), 5), 1);
        Check.dueFirst("fifth Saturdays", rules, 28, Check.day(2000, 4, 29), Check.day(2000, 7, 29));
        Check.due("weekDays(bits not looked at)", rules.weekDays(~0x7F, 3), 0);
        Check.dueFirst("an ordinal without weekdays", rules, 0, 31, 60);
    }

    private static void promise7Position() {
        CalendarRules rules = new CalendarRules();
        rules.frequency(2, 1);
        rules.weekDays(0x7F, 0);
        Check.due("position(10)", rules.position(10), 0);
        Check.dueFirst("tenth days", rules, 9, 40, 69);
        Check.due("position(-10)", rules.position(-10), 0);
        Check.dueFirst("tenth from the last", rules, 21, Check.day(2000, 2, 20), Check.day(2000, 3, 22));
        for (int bad : new int[] {-11, 11, MIN, MAX}) {
            Check.due("position(" + bad + ")", rules.position(bad), CalendarRules.BAD_NUMBER);
            Check.dueFirst("the position stays", rules, 21, Check.day(2000, 2, 20));
        }
        Check.due("position(0)", rules.position(0), 0);
        Check.due("no position", rules.between(0, 7304), 7305);
    }

    private static void promise8Limit() {
        CalendarRules rules = new CalendarRules();
        Check.due("limit(500, 7304)", rules.limit(500, 7304), 0);
        Check.due("500 days", rules.between(0, 7304), 500);
        Check.due("limit(0, 0)", rules.limit(0, 0), 0);
        Check.dueDays("end 0", rules, 0);
        Check.due("limit(3, 100)", rules.limit(3, 100), 0);
        Check.dueDays("count 3", rules, 0, 1, 2);
        int[][] badNumbers = {{-1, 50}, {501, 50}, {-1, -1}, {501, 7305}, {MIN, 0}, {MAX, 0}};
        for (int[] pair : badNumbers) {
            Check.due("limit(" + pair[0] + ", " + pair[1] + ")",
                rules.limit(pair[0], pair[1]), CalendarRules.BAD_NUMBER);
            Check.dueDays("the limit stays", rules, 0, 1, 2);
        }
        for (int bad : new int[] {-1, 7305, MIN, MAX}) {
            Check.due("limit(1, " + bad + ")", rules.limit(1, bad), CalendarRules.BAD_DAY);
            Check.dueDays("the limit stays", rules, 0, 1, 2);
        }
        Check.due("limit(3, 1)", rules.limit(3, 1), 0);
        Check.dueDays("the end before the count", rules, 0, 1);
    }

    private static void promise9Extra() {
        CalendarRules rules = new CalendarRules();
        rules.limit(3, 7304);
        Check.due("extra(1, 2)", rules.extra(1, 2), 1);
        Check.dueDays("an excluded day counts for the count", rules, 0, 2);
        Check.due("extra(7304, 1)", rules.extra(7304, 1), 2);
        Check.dueDays("included behind the series", rules, 0, 2, 7304);
        Check.due("said again", rules.extra(7304, 1), 2);
        Check.due("a day of the series included", rules.extra(0, 1), 3);
        Check.dueDays("it stands once", rules, 0, 2, 7304);
        Check.due("excluded becomes included", rules.extra(1, 1), 3);
        Check.dueDays("included", rules, 0, 1, 2, 7304);
        Check.due("included becomes excluded", rules.extra(7304, 2), 3);
        Check.dueDays("excluded", rules, 0, 1, 2);
        Check.due("extra(0, 0)", rules.extra(0, 0), 2);
        Check.dueDays("back to the series", rules, 0, 1, 2);
        for (int neither : new int[] {0, 3, -1, 257, 258, MIN, MAX}) {
            Check.due("extra(1, 2)", rules.extra(1, 2), 2);
            Check.due("extra(1, " + neither + ")", rules.extra(1, neither), 1);
            Check.dueDays("neither", rules, 0, 1, 2);
            Check.due("nothing was said", rules.extra(9, neither), 1);
            Check.due("said of one day", rules.extra(1, 1), 2);
        }
        for (int bad : new int[] {-1, 7305, MIN, MAX}) {
            Check.due("extra(" + bad + ", 1)", rules.extra(bad, 1), CalendarRules.BAD_DAY);
            Check.due("extra(" + bad + ", 0)", rules.extra(bad, 0), CalendarRules.BAD_DAY);
        }
        Check.due("still two", rules.extra(9, 0), 2);
    }

    private static void promise9ExtraFull() {
        CalendarRules rules = new CalendarRules();
        rules.limit(0, 0);
        for (int i = 0; i < 12; i++) {
            Check.due("extra number " + (i + 1), rules.extra(100 + i, i % 2 == 0 ? 1 : 2), i + 1);
        }
        Check.due("a thirteenth included", rules.extra(200, 1), CalendarRules.FULL);
        Check.due("a thirteenth excluded", rules.extra(200, 2), CalendarRules.FULL);
        Check.due("a bad day comes first", rules.extra(7305, 1), CalendarRules.BAD_DAY);
        Check.due("refused", rules.occurs(200), false);
        Check.due("neither of a thirteenth", rules.extra(200, 0), 12);
        Check.due("one of the twelve again", rules.extra(101, 1), 12);
        Check.due("it took effect", rules.occurs(101), true);
        Check.due("one of the twelve taken back", rules.extra(100, 0), 11);
        Check.due("room again", rules.extra(200, 1), 12);
        Check.due("full again", rules.extra(100, 1), CalendarRules.FULL);
        Check.dueDays("included", rules, 0, 101, 102, 104, 106, 108, 110, 200);
        rules.clear();
        Check.due("room after clear", rules.extra(1, 2), 1);
    }

    private static void promise10Clear() {
        CalendarRules rules = new CalendarRules();
        rules.start(500);
        rules.frequency(3, 2);
        rules.months(Check.set(3));
        rules.monthDays(Check.set(4), Check.set(5));
        rules.weekDays(Check.set(0), 2);
        rules.position(2);
        rules.limit(1, 3000);
        rules.extra(7, 1);
        rules.extra(0, 2);
        rules.extra(7304, 2);
        rules.clear();
        dueNew("clear", rules);
        rules.clear();
        dueNew("clear twice", rules);
    }

    /** Looks at every part of the state, each through a call that lets it be seen. */
    private static void dueNew(String what, CalendarRules rules) {
        Check.due(what + ": all days", rules.between(0, 7304), 7305);
        Check.due(what + ": nothing said", rules.extra(0, 0), 0);
        rules.frequency(2, 1);
        Check.dueFirst(what + ": start 0, no sets, no position", rules, 0, 31, 60);
        Check.due(what + ": no count, end 7304", rules.between(0, 7304), 240);
        rules.frequency(0, 1);
        Check.due(what + ": last day", rules.previous(7304), 7304);
        rules.clear();
    }
}
