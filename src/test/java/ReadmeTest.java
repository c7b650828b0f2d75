import java.io.IOException;
import java.nio.file.Files;
import java.nio.file.Path;
import java.util.List;

/** The example of README.md: its lines stand here as they stand there, and answer what their comments say. */
public final class ReadmeTest {
    public static void main(String[] args) throws IOException {
        theExampleAnswersWhatItSays();
        theExampleIsTheOneOfTheReadme();
        Check.finish();
    }

    private static void theExampleAnswersWhatItSays() {
        // example begins
        CalendarRules rules = new CalendarRules();           // daily, from day 0 to day 7304
        rules.start(rules.dayOf(2005, 3, 1));
        rules.frequency(2, 1);                               // monthly, each month
        rules.weekDays(1 << 4, -1);                          // Fridays, the last one of each month
        rules.limit(10, 7304);                               // at most ten days of the series
        rules.extra(rules.dayOf(2005, 4, 29), 2);            // not that day
        int first = rules.nth(0);                            // 1910, which is March 25, 2005
        int following = rules.next(first + 1);               // 1973, which is May 27, 2005
        int inAll = rules.between(0, 7304);                  // 9
        // example ends
        Check.due("first", first, 1910);
        Check.due("March 25, 2005", Check.day(2005, 3, 25), 1910);
        Check.due("following", following, 1973);
        Check.due("May 27, 2005", Check.day(2005, 5, 27), 1973);
        Check.due("inAll", inAll, 9);
        Check.due("a Friday", rules.weekday(first), 4);
    }

    /** .ci/run starts the tests in the project's own directory. */
    private static void theExampleIsTheOneOfTheReadme() throws IOException {
        List<String> told = linesBetween("README.md", "```java", "```");
        List<String> tried = linesBetween("src/test/java/ReadmeTest.java", "// example begins", "// example ends");
        Check.due("lines of the example in README.md", told.size(), 9);
        Check.due("they are the lines tried here", told.equals(tried), true);
    }

    private static List<String> linesBetween(String file, String before, String after) throws IOException {
        List<String> lines = Files.readAllLines(Path.of(file)).stream().map(String::strip).toList();
        List<String> rest = lines.subList(lines.indexOf(before) + 1, lines.size());
        int end = rest.indexOf(after);
        return end < 0 ? List.of() : rest.subList(0, end);
    }
}
