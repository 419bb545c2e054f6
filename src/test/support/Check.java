import java.util.function.IntUnaryOperator;
import java.util.function.ToIntFunction;

/** Prints every answer that is not the one that is due, and ends with exit code 1 if there was one. */
final class Check {
    private static final int MOST_PRINTED = 50;

    private final String name;
    private int answers = 0;
    private int wrong = 0;

    Check(String name) {
        this.name = name;
    }

    void due(String call, long got, long want) {
        answers++;
        if (got != want) {
            wrong++;
            if (wrong <= MOST_PRINTED) {
                System.out.println(name + ": " + call + " answered " + got + ", due is " + want);
            }
        }
    }

    /** The last numbers that an argument may be, and the first that are refused, on both sides. */
    void range(String call, int least, int most, IntUnaryOperator by) {
        for (int taken : new int[] {least, most}) {
            due(call + ", " + taken + " is taken (1)", by.applyAsInt(taken) == MotionDesk.BAD ? 0 : 1, 1);
        }
        for (int refused : new int[] {least - 1, most + 1, Integer.MIN_VALUE, Integer.MAX_VALUE}) {
            due(call + ", " + refused + " is refused", by.applyAsInt(refused), MotionDesk.BAD);
        }
    }

    /** A call on such a desk answers that, and the desk is then as one that had no such call. */
    void changesNothing(Desks desks, String name, int want, ToIntFunction<MotionDesk> call) {
        MotionDesk desk = desks.make();
        due(desks + ": " + name, call.applyAsInt(desk), want);
        new Look(desk).dueAs(new Look(desks.make()), this, desks + ": " + name);
    }

    int wrong() {
        return wrong;
    }

    void end() {
        System.out.println(name + ": " + answers + " answers, " + wrong + " of them wrong");
        if (wrong != 0) {
            System.exit(1);
        }
    }

    static void type(MotionDesk desk, String text) {
        for (int i = 0; i < text.length(); i++) {
            desk.type(text.charAt(i));
        }
    }

    /** The text is typed and read; what desk() answers. */
    static int tell(MotionDesk desk, String text) {
        type(desk, text);
        return desk.desk();
    }

    /** A new desk of which a text that has no fault was told. */
    static MotionDesk told(String text) {
        MotionDesk desk = new MotionDesk();
        int items = tell(desk, text);
        if (items < 0) {
            throw new IllegalStateException("fault in " + text + ": " + items);
        }
        return desk;
    }
}
