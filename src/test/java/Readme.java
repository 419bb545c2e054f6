import java.io.IOException;
import java.lang.reflect.Field;
import java.lang.reflect.Method;
import java.lang.reflect.Modifier;
import java.nio.file.Files;
import java.nio.file.Path;

/** What README.md says of the class is so, and it names every call and every constant. Runs in the project's folder. */
public final class Readme {
    private static final Check CHECK = new Check("Readme");

    public static void main(String[] args) throws IOException {
        String text = Files.readString(Path.of("README.md"));
        example();
        everyCall(text);
        everyConstant(text);
        CHECK.end();
    }

    private static void due(String call, long got, long want) {
        CHECK.due(call, got, want);
    }

    /** The calls of the example, in their order. */
    private static void example() {
        MotionDesk desk = new MotionDesk();
        due("desk()", Check.tell(desk, "n 3; r abc; r bca; r cab; g ((a b) c);"), 5);
        due("now(3)", desk.now(3), 0);
        due("now(4)", desk.now(4), 2);
        due("better(0, 1, 1)", desk.better(0, 1, 1), 1);
        due("sets(4)", desk.sets(4), 7);
        due("undo()", desk.undo(), 0);
        due("now(0)", desk.now(0), 5);
    }

    private static void everyCall(String text) {
        for (Method method : MotionDesk.class.getDeclaredMethods()) {
            if (Modifier.isPublic(method.getModifiers())) {
                due("a row for " + method.getName(), text.contains("\n| `" + method.getName() + "(") ? 1 : 0, 1);
            }
        }
    }

    private static void everyConstant(String text) {
        for (Field field : MotionDesk.class.getFields()) {
            String row = "\n| " + valueOf(field) + " | `" + field.getName() + "` | ";
            due("a row for " + field.getName(), text.contains(row) ? 1 : 0, 1);
        }
    }

    private static int valueOf(Field field) {
        try {
            return field.getInt(null);
        } catch (IllegalAccessException e) {
            throw new IllegalStateException(e);
        }
    }
}
