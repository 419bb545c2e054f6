import java.util.function.Function;

/**
 * Every call that takes numbers, with numbers of all kinds at every place of it at once (several may be
 * wrong), on desks with nothing, something and all that there may be: against the plain model.
 */
public final class NumbersOfAllKinds {
    private static final Check CHECK = new Check("NumbersOfAllKinds");
    private static final int LEAST = Integer.MIN_VALUE;
    private static final int MOST = Integer.MAX_VALUE;
    private static final int CALLS = 512;

    private static final int[] MANY = {
        LEAST, LEAST + 1, -256, -10, -9, -3, -2, -1, 0, 1, 2, 3, 4, 5, 6, 7, 8, 9, 10, 11, 30, 31, 32, 61, 62, 63, 64,
        119, 120, 121, 255, 256, 257, 719, 720, 721, 1 << 16, MOST - 1, MOST};
    private static final int[] SOME = {LEAST, -9, -1, 0, 1, 2, 3, 5, 6, 8, 9, 10, 11, 63, MOST};
    private static final int[] FEW = {LEAST, -1, 0, 1, 2, 6, 10, 11, MOST};

    private final Function<String, Both> make;
    private final String name;
    private Both both;

    private NumbersOfAllKinds(String name, Function<String, Both> make) {
        this.name = name;
        this.make = make;
        this.both = make.apply(name);
    }

    public static void main(String[] args) {
        new NumbersOfAllKinds("new", name -> new Both(CHECK, name)).all();
        new NumbersOfAllKinds("leaf", NumbersOfAllKinds::leaf).all();
        new NumbersOfAllKinds("some", NumbersOfAllKinds::some).all();
        new NumbersOfAllKinds("six motions", NumbersOfAllKinds::sixMotions).all();
        CHECK.end();
    }

    private static Both leaf(String name) {
        Both both = new Both(CHECK, name);
        both.tell("n2;rba;gb;");
        both.call("ranks", 0, 0);
        return both;
    }

    private static Both some(String name) {
        Both both = new Both(CHECK, name);
        both.tell("n4;rabcd;rbcda;rcdab;g((ab)(cd));");
        both.call("keep", 1);
        both.call("ranks", 0, 1);
        both.call("sees", 0, 1);
        both.type("rcba;");
        return both;
    }

    /** Four members, 63 nodes, ten that may be undone, six seen, both images, 120 letters. */
    private static Both sixMotions(String name) {
        Both both = new Both(CHECK, name);
        both.tell("n6;rabcdef;rfedcba;rcdabef;rdcfeab;");
        both.call("keep", 0);
        both.call("keep", 1);
        for (int i = 0; i < 10; i++) {
            both.call("swaps", 0);
        }
        for (int i = 0; i < 6; i++) {
            both.call("sees", i, i % 2);
        }
        both.type("n2;rba;" + " ".repeat(113));
        return both;
    }

    private void all() {
        for (String call : new String[] {"type", "now", "swaps", "sets", "rankings", "keep", "back", "count"}) {
            one(call);
        }
        for (String call : new String[] {"ranking", "node", "votes", "ranks", "order", "sees"}) {
            two(call);
        }
        for (String call : new String[] {"reach", "better", "won"}) {
            three(call);
        }
        four("odds");
    }

    /** On a desk made anew if the one there has had all calls that it may have. */
    private void make(String call, int... numbers) {
        if (both.calls() >= CALLS) {
            both = make.apply(name);
        }
        both.call(call, numbers);
    }

    private void one(String call) {
        for (int a : MANY) {
            make(call, a);
        }
    }

    private void two(String call) {
        for (int a : MANY) {
            for (int b : MANY) {
                make(call, a, b);
            }
        }
    }

    private void three(String call) {
        for (int a : SOME) {
            for (int b : SOME) {
                for (int c : SOME) {
                    make(call, a, b, c);
                }
            }
        }
    }

    private void four(String call) {
        for (int a : FEW) {
            for (int b : FEW) {
                for (int c : FEW) {
                    for (int d : FEW) {
                        make(call, a, b, c, d);
                    }
                }
            }
        }
    }
}
