/** Promises 9 to 12: rankings that change, turned branches, agendas by orders, undone. */
public final class PromisesChanges {
    private static final Check CHECK = new Check("PromisesChanges");
    private static final String RING = "rabc;rbca;rcab;g((ab)c);";

    public static void main(String[] args) {
        ranks();
        swaps();
        swapsOfUnlikeBranches();
        sets();
        undo();
        undoOfAllKinds();
        undoKnowsTen();
        CHECK.end();
    }

    private static void due(String call, long got, long want) {
        CHECK.due(call, got, want);
    }

    private static void dueRanking(MotionDesk desk, int member, int... motions) {
        for (int place = 0; place < motions.length; place++) {
            due("ranking(" + member + ", " + place + ")", desk.ranking(member, place), motions[place]);
        }
    }

    private static void dueLeaves(MotionDesk desk, int... kinds) {
        due("now(0)", desk.now(0), kinds.length);
        for (int k = 0; k < kinds.length; k++) {
            due("node(" + k + ", 0)", desk.node(k, 0), kinds[k]);
        }
    }

    private static void ranks() {
        MotionDesk desk = Check.told(RING);
        due("ranks(0, 0)", desk.ranks(0, 0), 1);
        dueRanking(desk, 0, 1, 0, 2);
        dueRanking(desk, 1, 1, 2, 0);
        due("votes(1, 0)", desk.votes(1, 0), 2);
        due("now(2)", desk.now(2), 1);
        due("ranks(2, 1)", desk.ranks(2, 1), 1);
        dueRanking(desk, 2, 2, 1, 0);
        due("now(5)", desk.now(5), 2);
        int[][] wrong = {{0, 2}, {0, 3}, {0, -1}, {3, 0}, {-1, 0}, {Integer.MAX_VALUE, 0}, {0, Integer.MAX_VALUE}};
        for (int[] pair : wrong) {
            due("ranks, wrong", desk.ranks(pair[0], pair[1]), MotionDesk.BAD);
        }
        due("now(5) behind refused ones", desk.now(5), 2);
        due("the outcome FORESEEN, not SINCERE", Check.told("n4;rabcd;rbcad;rcabd;g((ab)c);").ranks(0, 2), 2);
    }

    private static void swaps() {
        MotionDesk desk = Check.told("rabc;rbac;g(ab);");
        due("now(3)", desk.now(3), 0);
        due("swaps(0)", desk.swaps(0), 1);
        dueLeaves(desk, -9, 1, 0);
        due("now(4)", desk.now(4), 0);
        due("swaps(1), a leaf", desk.swaps(1), MotionDesk.STATE);
        due("swaps(2), a leaf", desk.swaps(2), MotionDesk.STATE);
        due("swaps(3)", desk.swaps(3), MotionDesk.BAD);
        due("swaps(-1)", desk.swaps(-1), MotionDesk.BAD);
        due("now(5)", desk.now(5), 1);
        due("swaps(0) again", desk.swaps(0), 0);
        dueLeaves(desk, -9, 0, 1);
        due("swaps(0), the outcome of the second branch", Check.told("rabc;g(a(bc));").swaps(0), 0);
        due("swaps(0) of a leaf alone", Check.told("ga;").swaps(0), MotionDesk.STATE);
    }

    private static void swapsOfUnlikeBranches() {
        MotionDesk desk = Check.told("n4;g((a(bc))d);");
        dueLeaves(desk, -9, -9, 0, -9, 1, 2, 3);
        desk.swaps(0);
        dueLeaves(desk, -9, 3, -9, 0, -9, 1, 2);
        due("node(0, 2)", desk.node(0, 2), 2);
        due("node(2, 3)", desk.node(2, 3), 7);
        desk.swaps(2);
        dueLeaves(desk, -9, 3, -9, -9, 1, 2, 0);
        due("node(2, 2)", desk.node(2, 2), 6);
        desk.swaps(3);
        dueLeaves(desk, -9, 3, -9, -9, 2, 1, 0);
    }

    private static void sets() {
        MotionDesk desk = Check.told(RING);
        due("sets(3)", desk.sets(3), 7);
        dueLeaves(desk, -9, -9, 1, 0, -9, 2, 0);
        due("sets(0)", desk.sets(0), 7);
        dueLeaves(desk, -9, -9, 0, 2, -9, 1, 2);
        due("sets(5)", desk.sets(5), 7);
        dueLeaves(desk, -9, -9, 2, 0, -9, 1, 0);
        due("sets(6)", desk.sets(6), MotionDesk.BAD);
        due("sets(-1)", desk.sets(-1), MotionDesk.BAD);
        due("now(5)", desk.now(5), 3);
        dueLeaves(desk, -9, -9, 2, 0, -9, 1, 0);
        MotionDesk four = Check.told("n4;ga;");
        due("sets(23) of 4", four.sets(23), 15);
        dueLeaves(four, -9, -9, -9, 3, 0, -9, 1, 0, -9, -9, 2, 0, -9, 1, 0);
        due("sets(24) of 4", four.sets(24), MotionDesk.BAD);
        due("sets(1) of 2", Check.told("n2;").sets(1), 3);
        due("sets(2) of 2", Check.told("n2;").sets(2), MotionDesk.BAD);
        due("sets(119) of 5", Check.told("n5;").sets(119), 31);
        due("sets(719) of 6", Check.told("n6;ga;").sets(719), 63);
        due("sets(720) of 6", Check.told("n6;").sets(720), MotionDesk.BAD);
    }

    private static void undo() {
        MotionDesk desk = Check.told(RING);
        due("undo(), none", desk.undo(), MotionDesk.STATE);
        desk.ranks(0, 2);
        desk.swaps(2);
        desk.sets(6);
        due("undo(), only refused ones", desk.undo(), MotionDesk.STATE);
        desk.ranks(0, 1);
        desk.ranks(3, 0);
        due("undo(), a refused one behind", desk.undo(), 0);
        dueRanking(desk, 0, 0, 1, 2);
        due("undo() again", desk.undo(), MotionDesk.STATE);
    }

    private static void undoOfAllKinds() {
        MotionDesk desk = Check.told(RING);
        desk.swaps(0);
        desk.ranks(1, 0);
        desk.sets(2);
        desk.sees(0, 0);
        due("undo() of sets", desk.undo(), 2);
        dueLeaves(desk, -9, 2, -9, 0, 1);
        dueRanking(desk, 1, 2, 1, 0);
        due("undo() of ranks", desk.undo(), 1);
        dueRanking(desk, 1, 1, 2, 0);
        due("votes(1, 2)", desk.votes(1, 2), 2);
        due("undo() of swaps", desk.undo(), 0);
        dueLeaves(desk, -9, -9, 0, 1, 2);
        due("now(3)", desk.now(3), 0);
        due("now(4)", desk.now(4), 2);
        due("count(3): SEEN stays", desk.count(3), 1);
        desk.sets(0);
        desk.sets(0);
        due("undo() of what changed nothing", desk.undo(), 1);
    }

    private static void undoKnowsTen() {
        MotionDesk desk = Check.told("rabc;");
        for (int i = 0; i < 12; i++) {
            desk.ranks(0, i % 2);
            due("now(5)", desk.now(5), Math.min(i + 1, 10));
        }
        dueRanking(desk, 0, 0, 1, 2);
        due("undo()", desk.undo(), 9);
        int[][] past = {{0, 1, 2}, {1, 0, 2}, {1, 2, 0}, {2, 1, 0}, {2, 0, 1}, {0, 2, 1}};
        dueRanking(desk, 0, past[5]);
        for (int left = 8; left >= 0; left--) {
            due("undo()", desk.undo(), left);
            dueRanking(desk, 0, past[(left + 2) % 6]);
        }
        due("undo(), older ones are lost", desk.undo(), MotionDesk.STATE);
        dueRanking(desk, 0, 1, 2, 0);
    }
}
