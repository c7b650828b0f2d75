import java.time.LocalDate;
import java.time.temporal.ChronoUnit;

/** What every test of the project shares: it prints each wrong answer and ends with exit code 1 if there was one. */
final class Check {
    static final int LAST_DAY = 7304;
    private static final LocalDate DAY_0 = LocalDate.of(2000, 1, 1);
    private static final LocalDate[] DATES = new LocalDate[LAST_DAY + 1];
    private static int wrong = 0;
    private static int made = 0;

    static {
        for (int day = 0; day <= LAST_DAY; day++) {
            DATES[day] = DAY_0.plusDays(day);
        }
    }

    private Check() {
    }

    static void due(String what, long got, long want) {
        made++;
        if (got != want) {
            wrong++;
            System.out.println(what + " answered " + got + ", due is " + want);
        }
    }

    static void due(String what, boolean got, boolean want) {
        due(what, got ? 1 : 0, want ? 1 : 0);
    }

    /** The days of the rule are just these. */
    static void dueDays(String what, CalendarRules rules, int... days) {
        due(what + ": how many days", rules.between(0, LAST_DAY), days.length);
        for (int i = 0; i < days.length; i++) {
            due(what + ": day " + i, rules.nth(i), days[i]);
        }
    }

    /** The first days of the rule are these; more may follow. */
    static void dueFirst(String what, CalendarRules rules, int... days) {
        for (int i = 0; i < days.length; i++) {
            due(what + ": day " + i, rules.nth(i), days[i]);
        }
    }

    static int day(int year, int month, int dayOfMonth) {
        return (int) ChronoUnit.DAYS.between(DAY_0, LocalDate.of(year, month, dayOfMonth));
    }

    static LocalDate date(int day) {
        return DATES[day];
    }

    /** The set with these numbers. */
    static int set(int... numbers) {
        int bits = 0;
        for (int number : numbers) {
            bits |= 1 << number;
        }
        return bits;
    }

    static void finish() {
        System.out.println(wrong == 0 ? made + " answers are as due" : wrong + " of " + made + " answers are not as due");
        if (wrong != 0) {
            System.exit(1);
        }
    }
}
