import java.time.LocalDate;
import java.time.temporal.ChronoUnit;
import java.util.List;
import java.util.function.Consumer;

/** What every test of the project shares: it prints each wrong answer and ends with exit code 1 if there was one. */
final class Check {
    static final int LAST_DAY = 7304;
    /** No test says anything of this day, so a "neither" of it answers of how many days something is said. */
    static final int UNSAID_DAY = 5000;
    private static final LocalDate DAY_0 = LocalDate.of(2000, 1, 1);
    private static final LocalDate[] DATES = new LocalDate[LAST_DAY + 1];
    private static int wrong = 0;
    private static int made = 0;

    static {
        for (int day = 0; day <= LAST_DAY; day++) {
            DATES[day] = DAY_0.plusDays(day);
        }
    }

    private Check() {
    }

    static void due(String what, long got, long want) {
        made++;
        if (got != want) {
            wrong++;
            System.out.println(what + " answered " + got + ", due is " + want);
        }
    }

    static void due(String what, boolean got, boolean want) {
        due(what, got ? 1 : 0, want ? 1 : 0);
    }

    /** The days of the rule are just these. */
    static void dueDays(String what, CalendarRules rules, int... days) {
        due(what + ": how many days", rules.between(0, LAST_DAY), days.length);
        for (int i = 0; i < days.length; i++) {
            due(what + ": day " + i, rules.nth(i), days[i]);
        }
    }

    /** The first days of the rule are these; more may follow. */
    static void dueFirst(String what, CalendarRules rules, int... days) {
        for (int i = 0; i < days.length; i++) {
            due(what + ": day " + i, rules.nth(i), days[i]);
        }
    }

    /**
     * Every part of the rule has its say in this one, so that dueSame sees a change of any part: the count monthly, the
     * end yearly (it is a day of that series).
     */
    static CalendarRules busy() {
        CalendarRules rules = new CalendarRules();
        rules.start(day(2001, 2, 10));
        rules.frequency(2, 2);
        rules.months(set(1, 2, 3, 4, 8, 10, 11, 12));
        rules.monthDays(set(25), set(1, 2, 3, 4, 5));
        rules.weekDays(set(0, 2, 4), -1);
        rules.position(2);
        rules.limit(14, day(2010, 1, 27));
        rules.extra(0, 1);
        rules.extra(day(2001, 3, 3), 1);
        rules.extra(day(2001, 2, 28), 2);
        return rules;
    }

    /** Two objects answer the same, and still do when both are changed further, so that no part of the rule hides. */
    static void dueSame(String what, CalendarRules got, CalendarRules want) {
        dueSameDays(what, got, want);
        due(what + ": days said something of", got.extra(UNSAID_DAY, 0), want.extra(UNSAID_DAY, 0));
        List<Consumer<CalendarRules>> changes = List.of(
            rules -> rules.frequency(3, 1), rules -> rules.frequency(1, 1), rules -> rules.frequency(2, 1),
            rules -> rules.limit(0, LAST_DAY), rules -> rules.position(0), rules -> rules.monthDays(0, 0),
            rules -> rules.weekDays(0, 0), rules -> rules.months(0), rules -> rules.frequency(0, 1));
        for (int i = 0; i < changes.size(); i++) {
            changes.get(i).accept(got);
            changes.get(i).accept(want);
            dueSameDays(what + ", changed further (" + i + ")", got, want);
        }
    }

    private static void dueSameDays(String what, CalendarRules got, CalendarRules want) {
        for (int n = 0; n < 20; n++) {
            due(what + ": day " + n, got.nth(n), want.nth(n));
        }
        for (int first = 0; first <= LAST_DAY; first += 500) {
            int last = Math.min(first + 499, LAST_DAY);
            due(what + ": days from " + first, got.between(first, last), want.between(first, last));
        }
    }

    static int day(int year, int month, int dayOfMonth) {
        return (int) ChronoUnit.DAYS.between(DAY_0, LocalDate.of(year, month, dayOfMonth));
    }

    static LocalDate date(int day) {
        return DATES[day];
    }

    /** The set with these numbers. */
    static int set(int... numbers) {
        int bits = 0;
        for (int number : numbers) {
            bits |= 1 << number;
        }
        return bits;
    }

    static void finish() {
        if (wrong != 0) {
            System.out.println(wrong + " of " + made + " answers are not as due");
            System.exit(1);
        }
        System.out.println(made + " answers are as due");
    }
}
