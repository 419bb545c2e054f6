/** Prints every answer that is not the one that is due, and ends with exit code 1 if there was one. */
final class Check {
    private static final int MOST_PRINTED = 50;

    private final String name;
    private int answers = 0;
    private int wrong = 0;

    Check(String name) {
        this.name = name;
    }

    void due(String call, long got, long want) {
        answers++;
        if (got != want) {
            wrong++;
            if (wrong <= MOST_PRINTED) {
                System.out.println(name + ": " + call + " answered " + got + ", due is " + want);
            }
        }
    }

    int wrong() {
        return wrong;
    }

    void end() {
        System.out.println(name + ": " + answers + " answers, " + wrong + " of them wrong");
        if (wrong != 0) {
            System.exit(1);
        }
    }

    /** The text is typed and read; what desk() answers. */
    static int tell(MotionDesk desk, String text) {
        for (int i = 0; i < text.length(); i++) {
            desk.type(text.charAt(i));
        }
        return desk.desk();
    }

    /** A new desk of which a text that has no fault was told. */
    static MotionDesk told(String text) {
        MotionDesk desk = new MotionDesk();
        int items = tell(desk, text);
        if (items < 0) {
            throw new IllegalStateException("fault in " + text + ": " + items);
        }
        return desk;
    }
}
