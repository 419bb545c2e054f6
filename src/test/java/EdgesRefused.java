import java.util.function.ToIntFunction;

/**
 * "Refused, and nothing changes, the first of these: BAD (a number is not as told, or there is no such
 * thing), STATE (as told), FULL." Every call that can be refused, on desks with nothing, something, all.
 */
public final class EdgesRefused {
    private static final Check CHECK = new Check("EdgesRefused");
    private static final int LEAST = Integer.MIN_VALUE;
    private static final int MOST = Integer.MAX_VALUE;

    public static void main(String[] args) {
        for (Desks desks : Desks.values()) {
            badOfTheDesk(desks);
            badOfWhatIsDone(desks);
            badOfOrdersAndMembers(desks);
            badOfWhichRanking(desks);
            badOfImages(desks);
        }
        stateChangesNothing();
        fullChangesNothing();
        badAheadOfState();
        badAheadOfFull();
        stateAheadOfFull();
        CHECK.end();
    }

    private static void bad(Desks desks, String name, ToIntFunction<MotionDesk> call) {
        CHECK.changesNothing(desks, name, MotionDesk.BAD, call);
    }

    /** Those just outside of 0 .. bound - 1, and the most extreme ones. */
    private static int[] outside(int bound) {
        return new int[] {-1, bound, LEAST, MOST};
    }

    private static void badOfTheDesk(Desks desks) {
        int motions = desks.make().count(0);
        int members = desks.make().count(1);
        int nodes = desks.make().now(0);
        for (int letter : outside(256)) {
            bad(desks, "type(" + letter + ")", desk -> desk.type(letter));
        }
        for (int member : outside(members)) {
            bad(desks, "ranking(" + member + ", 0)", desk -> desk.ranking(member, 0));
        }
        for (int motion : outside(motions)) {
            bad(desks, "ranking(0, " + motion + ")", desk -> desk.ranking(0, motion));
            bad(desks, "votes(" + motion + ", 1)", desk -> desk.votes(motion, 1));
            bad(desks, "votes(1, " + motion + ")", desk -> desk.votes(1, motion));
            bad(desks, "votes(" + motion + ", the same)", desk -> desk.votes(motion, motion));
        }
        bad(desks, "votes(0, 0)", desk -> desk.votes(0, 0));
        for (int k : outside(nodes)) {
            bad(desks, "node(" + k + ", 0)", desk -> desk.node(k, 0));
        }
        for (int what : outside(7)) {
            bad(desks, "node(0, " + what + ")", desk -> desk.node(0, what));
        }
        for (int what : outside(6)) {
            bad(desks, "now(" + what + ")", desk -> desk.now(what));
        }
    }

    private static void badOfWhatIsDone(Desks desks) {
        int motions = desks.make().count(0);
        int members = desks.make().count(1);
        int nodes = desks.make().now(0);
        int orders = desks.make().count(2);
        for (int member : outside(members)) {
            bad(desks, "ranks(" + member + ", 0)", desk -> desk.ranks(member, 0));
        }
        for (int place : outside(motions - 1)) {
            bad(desks, "ranks(0, " + place + ")", desk -> desk.ranks(0, place));
        }
        bad(desks, "ranks(0, motions)", desk -> desk.ranks(0, motions));
        for (int k : outside(nodes)) {
            bad(desks, "swaps(" + k + ")", desk -> desk.swaps(k));
        }
        for (int order : outside(orders)) {
            bad(desks, "sets(" + order + ")", desk -> desk.sets(order));
        }
    }

    private static void badOfOrdersAndMembers(Desks desks) {
        for (int k : outside(desks.make().count(2))) {
            bad(desks, "order(" + k + ", 0)", desk -> desk.order(k, 0));
        }
        for (int motion : outside(desks.make().count(0))) {
            bad(desks, "order(0, " + motion + ")", desk -> desk.order(0, motion));
            bad(desks, "reach(" + motion + ", 0, 0)", desk -> desk.reach(motion, 0, 0));
            bad(desks, "won(" + motion + ", 0, 0)", desk -> desk.won(motion, 0, 0));
            bad(desks, "odds(5, " + motion + ", 0, 0)", desk -> desk.odds(5, motion, 0, 0));
        }
        for (int member : outside(desks.make().count(1))) {
            bad(desks, "better(" + member + ", 0, 0)", desk -> desk.better(member, 0, 0));
        }
        for (int two : outside(2)) {
            bad(desks, "reach(0, " + two + ", 0)", desk -> desk.reach(0, two, 0));
            bad(desks, "reach(0, 0, " + two + ")", desk -> desk.reach(0, 0, two));
            bad(desks, "better(0, " + two + ", 0)", desk -> desk.better(0, two, 0));
            bad(desks, "won(0, " + two + ", 0)", desk -> desk.won(0, two, 0));
            bad(desks, "won(0, 0, " + two + ")", desk -> desk.won(0, 0, two));
            bad(desks, "odds(5, 0, " + two + ", 0)", desk -> desk.odds(5, 0, two, 0));
            bad(desks, "odds(5, 0, 0, " + two + ")", desk -> desk.odds(5, 0, 0, two));
        }
        for (int what : outside(3)) {
            bad(desks, "better(0, 0, " + what + ")", desk -> desk.better(0, 0, what));
        }
        for (int x : outside(11)) {
            bad(desks, "odds(" + x + ", 0, 0, 0)", desk -> desk.odds(x, 0, 0, 0));
        }
    }

    private static void badOfWhichRanking(Desks desks) {
        for (int k : outside(desks.make().now(0))) {
            bad(desks, "sees(" + k + ", 0)", desk -> desk.sees(k, 0));
        }
        for (int two : outside(2)) {
            bad(desks, "sees(0, " + two + ")", desk -> desk.sees(0, two));
            bad(desks, "rankings(" + two + ")", desk -> desk.rankings(two));
        }
    }

    private static void badOfImages(Desks desks) {
        for (int image : outside(2)) {
            bad(desks, "keep(" + image + ")", desk -> desk.keep(image));
            bad(desks, "back(" + image + ")", desk -> desk.back(image));
        }
        for (int what : outside(5)) {
            bad(desks, "count(" + what + ")", desk -> desk.count(what));
        }
    }

    private static void state(Desks desks, String name, ToIntFunction<MotionDesk> call) {
        CHECK.changesNothing(desks, name, MotionDesk.STATE, call);
    }

    /** swaps() of a leaf, undo() of none, sees() of a leaf, back() of none kept. */
    private static void stateChangesNothing() {
        state(Desks.NEW, "swaps(2)", desk -> desk.swaps(2));
        state(Desks.NEW, "swaps(6)", desk -> desk.swaps(6));
        state(Desks.NEW, "undo()", MotionDesk::undo);
        state(Desks.NEW, "sees(2, 0)", desk -> desk.sees(2, 0));
        state(Desks.NEW, "sees(6, 1)", desk -> desk.sees(6, 1));
        state(Desks.NEW, "back(0)", desk -> desk.back(0));
        state(Desks.NEW, "back(1)", desk -> desk.back(1));
        state(Desks.SOME, "swaps(1)", desk -> desk.swaps(1));
        state(Desks.SOME, "swaps(4)", desk -> desk.swaps(4));
        state(Desks.SOME, "sees(1, 0)", desk -> desk.sees(1, 0));
        state(Desks.SOME, "back(0)", desk -> desk.back(0));
        state(Desks.FULL, "swaps(2)", desk -> desk.swaps(2));
        state(Desks.LEAF, "swaps(0)", desk -> desk.swaps(0));
        state(Desks.LEAF, "sees(0, 0)", desk -> desk.sees(0, 0));
        state(Desks.LEAF, "back(0)", desk -> desk.back(0));
    }

    private static void fullChangesNothing() {
        for (int letter : new int[] {0, ' ', ';', 255}) {
            CHECK.changesNothing(Desks.FULL, "type(" + letter + ")", MotionDesk.FULL, desk -> desk.type(letter));
        }
        for (int branch = 0; branch < 2; branch++) {
            int by = branch;
            CHECK.changesNothing(Desks.FULL, "sees(0, " + by + ")", MotionDesk.FULL, desk -> desk.sees(0, by));
            CHECK.changesNothing(Desks.FULL, "sees(1, " + by + ")", MotionDesk.FULL, desk -> desk.sees(1, by));
        }
    }

    private static void first(String call, int got, int want) {
        CHECK.due(call + ", the first refusal", got, want);
    }

    /** A node that is none is no leaf; an image that is none was not kept; a branch that is none of a leaf. */
    private static void badAheadOfState() {
        first("swaps(-1), a leaf alone", Desks.LEAF.make().swaps(-1), MotionDesk.BAD);
        first("swaps(1), a leaf alone", Desks.LEAF.make().swaps(1), MotionDesk.BAD);
        first("sees(0, 2), a leaf", Desks.LEAF.make().sees(0, 2), MotionDesk.BAD);
        first("sees(0, -1), a leaf", Desks.LEAF.make().sees(0, -1), MotionDesk.BAD);
        first("sees(1, 0), a leaf alone", Desks.LEAF.make().sees(1, 0), MotionDesk.BAD);
        first("back(2), none kept", Desks.NEW.make().back(2), MotionDesk.BAD);
        first("back(-1), none kept", Desks.NEW.make().back(-1), MotionDesk.BAD);
    }

    private static void badAheadOfFull() {
        first("type(256), full", Desks.FULL.make().type(256), MotionDesk.BAD);
        first("type(-1), full", Desks.FULL.make().type(-1), MotionDesk.BAD);
        first("sees(5, 0), full", Desks.FULL.make().sees(5, 0), MotionDesk.BAD);
        first("sees(-1, 0), full", Desks.FULL.make().sees(-1, 0), MotionDesk.BAD);
        first("sees(0, 2), full", Desks.FULL.make().sees(0, 2), MotionDesk.BAD);
        first("sees(2, 2), a leaf, full", Desks.FULL.make().sees(2, 2), MotionDesk.BAD);
    }

    private static void stateAheadOfFull() {
        for (int k = 2; k <= 4; k++) {
            int leaf = k;
            CHECK.changesNothing(Desks.FULL, "sees(" + k + ", 1), the first refusal", MotionDesk.STATE, desk -> desk.sees(leaf, 1));
        }
    }
}
