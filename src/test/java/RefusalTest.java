import java.util.function.ToIntFunction;

/** "Tests are made in the order in which they are named; a refused call changes nothing.": a method for each test. */
public final class RefusalTest {
    private static final int MIN = Integer.MIN_VALUE;
    private static final int MAX = Integer.MAX_VALUE;
    private static final int[] BAD_DAYS = {-1, 7305, MIN, MAX};

    public static void main(String[] args) {
        promise2StartNotADay();
        promise3FrequencyNotIn0To3();
        promise3IntervalNotIn1To20();
        promise6OrdinalNotInMinus5To5();
        promise7PositionNotInMinus10To10();
        promise8CountNotIn0To500();
        promise8EndNotADay();
        promise8CountIsTestedBeforeEnd();
        promise9ExtraNotADay();
        promise9ThirteenthDay();
        promise9DayIsTestedBeforeFull();
        Check.finish();
    }

    private static CalendarRules full() {
        CalendarRules rules = new CalendarRules();
        rules.frequency(1, 1);
        for (int i = 0; i < 12; i++) {
            rules.extra(100 + i, i % 2 + 1);
        }
        return rules;
    }

    private static void dueRefused(String call, ToIntFunction<CalendarRules> refused, int want) {
        CalendarRules rules = Check.busy();
        Check.due(call, refused.applyAsInt(rules), want);
        Check.dueSame("after the refused " + call, rules, Check.busy());
    }

    private static void dueRefusedWhenFull(String call, ToIntFunction<CalendarRules> refused, int want) {
        CalendarRules rules = full();
        Check.due(call + " when full", refused.applyAsInt(rules), want);
        Check.dueSame("after the refused " + call + " when full", rules, full());
    }

    private static void dueBadNumber(String call, ToIntFunction<CalendarRules> refused) {
        dueRefused(call, refused, CalendarRules.BAD_NUMBER);
    }

    private static void promise2StartNotADay() {
        for (int bad : BAD_DAYS) {
            dueRefused("start(" + bad + ")", rules -> rules.start(bad), CalendarRules.BAD_DAY);
        }
    }

    private static void promise3FrequencyNotIn0To3() {
        for (int bad : new int[] {-1, 4, MIN, MAX}) {
            dueBadNumber("frequency(" + bad + ", 1)", rules -> rules.frequency(bad, 1));
            dueBadNumber("frequency(" + bad + ", 21)", rules -> rules.frequency(bad, 21));
        }
    }

    private static void promise3IntervalNotIn1To20() {
        for (int bad : new int[] {0, 21, -1, -2, MIN, MAX}) {
            dueBadNumber("frequency(0, " + bad + ")", rules -> rules.frequency(0, bad));
            dueBadNumber("frequency(2, " + bad + ")", rules -> rules.frequency(2, bad));
        }
    }

    private static void promise6OrdinalNotInMinus5To5() {
        for (int bad : new int[] {-6, 6, MIN, MAX}) {
            dueBadNumber("weekDays(all, " + bad + ")", rules -> rules.weekDays(0x7F, bad));
            dueBadNumber("weekDays(none, " + bad + ")", rules -> rules.weekDays(0, bad));
        }
    }

    private static void promise7PositionNotInMinus10To10() {
        for (int bad : new int[] {-11, 11, MIN, MAX}) {
            dueBadNumber("position(" + bad + ")", rules -> rules.position(bad));
        }
    }

    private static void promise8CountNotIn0To500() {
        for (int bad : new int[] {-1, 501, MIN, MAX}) {
            dueBadNumber("limit(" + bad + ", 2000)", rules -> rules.limit(bad, 2000));
        }
    }

    private static void promise8EndNotADay() {
        for (int bad : BAD_DAYS) {
            dueRefused("limit(3, " + bad + ")", rules -> rules.limit(3, bad), CalendarRules.BAD_DAY);
            dueRefused("limit(0, " + bad + ")", rules -> rules.limit(0, bad), CalendarRules.BAD_DAY);
        }
    }

    private static void promise8CountIsTestedBeforeEnd() {
        dueBadNumber("limit(-1, -1)", rules -> rules.limit(-1, -1));
        dueBadNumber("limit(501, 7305)", rules -> rules.limit(501, 7305));
    }

    private static void promise9ExtraNotADay() {
        for (int bad : BAD_DAYS) {
            for (int how = 0; how <= 3; how++) {
                int said = how;
                dueRefused("extra(" + bad + ", " + how + ")", rules -> rules.extra(bad, said), CalendarRules.BAD_DAY);
            }
        }
    }

    private static void promise9ThirteenthDay() {
        for (int day : new int[] {0, 99, 112, 7304}) {
            dueRefusedWhenFull("extra(" + day + ", 1)", rules -> rules.extra(day, 1), CalendarRules.FULL);
            dueRefusedWhenFull("extra(" + day + ", 2)", rules -> rules.extra(day, 2), CalendarRules.FULL);
        }
    }

    private static void promise9DayIsTestedBeforeFull() {
        for (int bad : BAD_DAYS) {
            dueRefusedWhenFull("extra(" + bad + ", 1)", rules -> rules.extra(bad, 1), CalendarRules.BAD_DAY);
            dueRefusedWhenFull("extra(" + bad + ", 2)", rules -> rules.extra(bad, 2), CalendarRules.BAD_DAY);
        }
    }
}
