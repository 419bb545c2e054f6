import java.lang.reflect.Method;
import java.util.Arrays;
import java.util.HashMap;
import java.util.Map;

/** A desk and the plain model, on which the same calls are made. */
final class Both {
    private final Check check;
    private final String name;
    private final MotionDesk desk = new MotionDesk();
    private final PlainModel model = new PlainModel();
    private final Map<String, Method> methods = new HashMap<>();
    private int calls = 0;

    Both(Check check, String name) {
        this.check = check;
        this.name = name;
        for (Method method : MotionDesk.class.getMethods()) {
            if (method.getDeclaringClass() == MotionDesk.class) {
                methods.put(method.getName(), method);
            }
        }
    }

    /** Both answer; the desk's answer is due to be the model's. */
    int call(String call, int... numbers) {
        calls++;
        int want = answer(model, call, numbers);
        int got = answer(desk, call, numbers);
        check.due(name + ": " + call + Arrays.toString(numbers), got, want);
        return want;
    }

    int calls() {
        return calls;
    }

    void tell(String text) {
        type(text);
        call("desk");
    }

    void type(String text) {
        for (int i = 0; i < text.length(); i++) {
            call("type", text.charAt(i));
        }
    }

    /** The types of the call are those of the face, which the model has, too. */
    private int answer(Object of, String call, int... numbers) {
        Object[] arguments = Arrays.stream(numbers).boxed().toArray();
        try {
            Method method = methods.get(call);
            if (of == model) {
                method = PlainModel.class.getDeclaredMethod(call, method.getParameterTypes());
            }
            return (Integer) method.invoke(of, arguments);
        } catch (ReflectiveOperationException e) {
            throw new IllegalStateException(name + ": " + call + Arrays.toString(numbers), e);
        }
    }
}
