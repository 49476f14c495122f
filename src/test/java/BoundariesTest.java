import java.lang.reflect.InvocationTargetException;
import java.lang.reflect.Method;
import java.util.Arrays;
import java.util.Comparator;
import java.util.HashSet;
import java.util.List;
import java.util.Set;

/**
 * A test for each sentence of the document that names a boundary: too small, too large, empty, full, a wrap-around, a refused call.
 * Each test names its sentence, which must stand in the document as the test tells it.
 */
public final class BoundariesTest extends Calls {
    private static final List<Class<?>> GROUPS = List.of(StageBoundaries.class, ChannelBoundaries.class, CheckpointBoundaries.class,
        TextBoundaries.class, ErrorBoundaries.class, SettingBoundaries.class, QuestionBoundaries.class);
    /** What has no boundary of its own. */
    private static final Set<String> SILENT = Set.of("", "The public face", "Not promised");

    public static void main(String[] args) throws Exception {
        Document document = Document.read();
        Set<String> held = new HashSet<>();
        for (Class<?> group : GROUPS) {
            for (Method test : testsOf(group)) {
                Holds holds = test.getAnnotation(Holds.class);
                about(holds.at() + ", \"" + holds.says() + "\", " + test.getName());
                if (!document.says(holds.at(), holds.says())) {
                    wrong("the document does not say so there");
                }
                held.add(holds.at());
                run(test);
            }
        }
        for (String place : document.places()) {
            about(place);
            if (!held.contains(place) && !SILENT.contains(place)) {
                wrong("no test of a boundary");
            }
        }
        exitIfWrong();
    }

    private static List<Method> testsOf(Class<?> group) {
        Method[] all = group.getDeclaredMethods();
        about(group.getName());
        for (Method each : all) {
            boolean looksLikeTest = each.getParameterCount() == 0 && each.getReturnType() == void.class;
            if (looksLikeTest != each.isAnnotationPresent(Holds.class)) {
                wrong(each.getName() + " is no test, or names no sentence");
            }
        }
        return Arrays.stream(all).filter(each -> each.isAnnotationPresent(Holds.class))
            .sorted(Comparator.comparing(Method::getName)).toList();
    }

    private static void run(Method test) throws IllegalAccessException {
        try {
            test.invoke(null);
        } catch (InvocationTargetException thrown) {
            wrong("threw " + thrown.getCause());
        }
    }
}
