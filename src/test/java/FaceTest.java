import java.lang.reflect.Field;
import java.lang.reflect.Method;
import java.lang.reflect.Modifier;
import java.util.Set;
import java.util.TreeSet;

/** The public face: the members of the document, and no other one that can be seen from outside. */
public final class FaceTest {
    private static final String[] METHODS = {
        "int start(int)", "int frequency(int,int)", "int months(int)", "int monthDays(int,int)",
        "int weekDays(int,int)", "int position(int)", "int limit(int,int)", "int extra(int,int)",
        "void clear()", "boolean occurs(int)", "int next(int)", "int previous(int)", "int nth(int)",
        "int between(int,int)", "int weekday(int)", "int dayOf(int,int,int)"
    };

    public static void main(String[] args) {
        Check.due("BAD_DAY", CalendarRules.BAD_DAY, -1);
        Check.due("BAD_NUMBER", CalendarRules.BAD_NUMBER, -2);
        Check.due("FULL", CalendarRules.FULL, -3);
        Check.due("NONE", CalendarRules.NONE, -4);
        Check.due("the class is public and final",
            CalendarRules.class.getModifiers(), Modifier.PUBLIC | Modifier.FINAL);
        Check.due("constructors", CalendarRules.class.getDeclaredConstructors().length, 1);
        Check.due("nested classes", CalendarRules.class.getDeclaredClasses().length, 0);
        methods();
        fields();
        Check.finish();
    }

    private static void methods() {
        Set<String> seen = new TreeSet<>();
        Set<String> publicNames = new TreeSet<>();
        Set<String> privateNames = new TreeSet<>();
        for (Method method : CalendarRules.class.getDeclaredMethods()) {
            boolean isPrivate = Modifier.isPrivate(method.getModifiers());
            (isPrivate ? privateNames : publicNames).add(method.getName());
            if (!isPrivate) {
                seen.add(text(method));
                Check.due(text(method) + " is only public", method.getModifiers(), Modifier.PUBLIC);
            }
        }
        Check.due("methods " + seen, seen.equals(new TreeSet<>(Set.of(METHODS))), true);
        privateNames.retainAll(publicNames);
        Check.due("names both private and public " + privateNames, privateNames.size(), 0);
    }

    private static void fields() {
        Set<String> seen = new TreeSet<>();
        for (Field field : CalendarRules.class.getDeclaredFields()) {
            if (!Modifier.isPrivate(field.getModifiers())) {
                seen.add(field.getName());
                Check.due(field.getName() + " is a public constant",
                    field.getModifiers(), Modifier.PUBLIC | Modifier.STATIC | Modifier.FINAL);
            }
        }
        Check.due("fields " + seen, seen.equals(Set.of("BAD_DAY", "BAD_NUMBER", "FULL", "NONE")), true);
    }

    private static String text(Method method) {
        StringBuilder text = new StringBuilder(method.getReturnType() + " " + method.getName() + "(");
        String comma = "";
        for (Class<?> type : method.getParameterTypes()) {
            text.append(comma).append(type);
            comma = ",";
        }
        return text.append(")").toString();
    }
}
