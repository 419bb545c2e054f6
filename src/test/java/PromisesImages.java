/** Promises 22 to 24: images, and what count() counts. */
public final class PromisesImages {
    private static final Check CHECK = new Check("PromisesImages");
    private static final String RING = "rabc;rbca;rcab;g((ab)c);";

    public static void main(String[] args) {
        keep();
        back();
        backKeepsTheRest();
        count();
        CHECK.end();
    }

    private static void due(String call, long got, long want) {
        CHECK.due(call, got, want);
    }

    private static void keep() {
        MotionDesk desk = Check.told(RING);
        due("keep(0)", desk.keep(0), 5);
        desk.sets(0);
        due("keep(1)", desk.keep(1), 7);
        due("keep(2)", desk.keep(2), MotionDesk.BAD);
        due("keep(-1)", desk.keep(-1), MotionDesk.BAD);
        due("now(5): keep() leaves it", desk.now(5), 1);
        due("now(0): keep() leaves it", desk.now(0), 7);
        due("keep(0) again", desk.keep(0), 7);
        due("undo()", desk.undo(), 0);
        due("back(0): the later one", desk.back(0), 7);
        due("keep() of no members", new MotionDesk().keep(1), 7);
    }

    private static void back() {
        MotionDesk desk = Check.told(RING);
        due("back(2)", desk.back(2), MotionDesk.BAD);
        due("back(-1)", desk.back(-1), MotionDesk.BAD);
        due("back(0), none kept", desk.back(0), MotionDesk.STATE);
        desk.keep(1);
        due("back(0), the other one kept", desk.back(0), MotionDesk.STATE);
        desk.ranks(0, 0);
        due("back(0) refused: now(5)", desk.back(0) == MotionDesk.STATE ? desk.now(5) : -100, 1);
        desk.sets(0);
        desk.keep(0);
        due("back(1)", desk.back(1), 5);
        due("now(0)", desk.now(0), 5);
        due("ranking(0, 0)", desk.ranking(0, 0), 0);
        due("votes(0, 1)", desk.votes(0, 1), 2);
        due("now(3)", desk.now(3), 0);
        due("now(4)", desk.now(4), 2);
        due("now(5)", desk.now(5), 0);
        due("undo()", desk.undo(), MotionDesk.STATE);
        due("back(0)", desk.back(0), 7);
        due("ranking(0, 0)", desk.ranking(0, 0), 1);
        desk.ranks(0, 0);
        due("back(0) again", desk.back(0), 7);
        due("ranking(0, 0): an image is not changed", desk.ranking(0, 0), 1);
        desk.desk();
        due("back(0) behind desk()", desk.back(0), MotionDesk.STATE);
        due("back(1) behind desk()", desk.back(1), MotionDesk.STATE);
    }

    private static void backKeepsTheRest() {
        MotionDesk desk = Check.told(RING);
        desk.keep(0);
        desk.sees(0, 1);
        desk.type('x');
        desk.back(0);
        due("count(3): SEEN stays", desk.count(3), 1);
        due("count(4): THE TEXT stays", desk.count(4), 1);
        desk.forget();
        desk.back(0);
        due("count(3): and is not brought back", desk.count(3), 0);
    }

    private static void count() {
        int[] orders = {2, 6, 24, 120, 720};
        for (int motions = 2; motions <= 6; motions++) {
            MotionDesk desk = Check.told("n" + motions + ";");
            due("count(0)", desk.count(0), motions);
            due("count(1)", desk.count(1), 0);
            due("count(2)", desk.count(2), orders[motions - 2]);
        }
        MotionDesk desk = Check.told(RING);
        due("count(1)", desk.count(1), 3);
        desk.sees(0, 0);
        desk.sees(1, 0);
        due("count(3)", desk.count(3), 2);
        desk.type('a');
        due("count(4)", desk.count(4), 1);
        due("count(5)", desk.count(5), MotionDesk.BAD);
        due("count(-1)", desk.count(-1), MotionDesk.BAD);
        due("count(max)", desk.count(Integer.MAX_VALUE), MotionDesk.BAD);
    }
}
