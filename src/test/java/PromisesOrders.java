/** Promises 13 to 17: orders, what a member reaches, who must be won over, the odds. */
public final class PromisesOrders {
    private static final Check CHECK = new Check("PromisesOrders");
    private static final String RING = "rabc;rbca;rcab;g((ab)c);";

    public static void main(String[] args) {
        order();
        reach();
        better();
        won();
        odds();
        oddsOfNine();
        nothingIsChanged();
        CHECK.end();
    }

    private static void due(String call, long got, long want) {
        CHECK.due(call, got, want);
    }

    private static void dueOrder(MotionDesk desk, int k, int... motions) {
        for (int place = 0; place < motions.length; place++) {
            due("order(" + k + ", " + place + ")", desk.order(k, place), motions[place]);
        }
    }

    private static void order() {
        MotionDesk desk = new MotionDesk();
        dueOrder(desk, 0, 0, 1, 2);
        dueOrder(desk, 1, 0, 2, 1);
        dueOrder(desk, 2, 1, 0, 2);
        dueOrder(desk, 3, 1, 2, 0);
        dueOrder(desk, 4, 2, 0, 1);
        dueOrder(desk, 5, 2, 1, 0);
        due("order(6, 0)", desk.order(6, 0), MotionDesk.BAD);
        due("order(-1, 0)", desk.order(-1, 0), MotionDesk.BAD);
        due("order(0, 3)", desk.order(0, 3), MotionDesk.BAD);
        due("order(0, -1)", desk.order(0, -1), MotionDesk.BAD);
        MotionDesk six = Check.told("n6;");
        dueOrder(six, 1, 0, 1, 2, 3, 5, 4);
        dueOrder(six, 120, 1, 0, 2, 3, 4, 5);
        dueOrder(six, 719, 5, 4, 3, 2, 1, 0);
        due("order(720, 0) of 6", six.order(720, 0), MotionDesk.BAD);
        dueOrder(Check.told("n2;"), 1, 1, 0);
    }

    private static void dueReach(MotionDesk desk, int motion, int way, int many, int first) {
        due("reach(" + motion + ", " + way + ", 0)", desk.reach(motion, way, 0), many);
        due("reach(" + motion + ", " + way + ", 1)", desk.reach(motion, way, 1), first);
    }

    private static void reach() {
        MotionDesk desk = Check.told(RING);
        for (int time = 0; time < 2; time++) {
            dueReach(desk, 0, 0, 2, 3);
            dueReach(desk, 1, 0, 2, 1);
            dueReach(desk, 2, 0, 2, 0);
            dueReach(desk, 0, 1, 2, 1);
            dueReach(desk, 1, 1, 2, 0);
            dueReach(desk, 2, 1, 2, 3);
            desk.swaps(0);
        }
        MotionDesk one = Check.told("rabc;gc;");
        for (int way = 0; way < 2; way++) {
            dueReach(one, 0, way, 6, 0);
            dueReach(one, 1, way, 0, MotionDesk.NONE);
            dueReach(one, 2, way, 0, MotionDesk.NONE);
        }
        MotionDesk even = Check.told("n6;");
        for (int motion = 0; motion < 6; motion++) {
            dueReach(even, motion, 0, 120, 120 * motion);
            dueReach(even, motion, 1, motion == 0 ? 720 : 0, motion == 0 ? 0 : MotionDesk.NONE);
        }
        int[][] wrong = {{-1, 0, 0}, {3, 0, 0}, {0, -1, 0}, {0, 2, 0}, {0, 0, -1}, {0, 0, 2}};
        for (int[] three : wrong) {
            due("reach, wrong", desk.reach(three[0], three[1], three[2]), MotionDesk.BAD);
        }
    }

    private static void dueBetter(MotionDesk desk, int member, int way, int many, int best, int first) {
        due("better(" + member + ", " + way + ", 0)", desk.better(member, way, 0), many);
        due("better(" + member + ", " + way + ", 1)", desk.better(member, way, 1), best);
        due("better(" + member + ", " + way + ", 2)", desk.better(member, way, 2), first);
    }

    private static void better() {
        MotionDesk desk = Check.told(RING);
        dueBetter(desk, 0, 0, 0, 0, 0);
        dueBetter(desk, 0, 1, 2, 1, 2);
        dueBetter(desk, 1, 0, 2, 2, 4);
        dueBetter(desk, 1, 1, 0, 2, 3);
        MotionDesk alone = Check.told("rcba;g(ab);");
        dueBetter(alone, 0, 0, 0, 1, 2);
        dueBetter(alone, 0, 1, 0, 1, 2);
        MotionDesk leaf = Check.told("rcba;ga;");
        dueBetter(leaf, 0, 0, 0, 0, 0);
        int[][] wrong = {{-1, 0, 0}, {3, 0, 0}, {0, -1, 0}, {0, 2, 0}, {0, 0, -1}, {0, 0, 3}};
        for (int[] three : wrong) {
            due("better, wrong", desk.better(three[0], three[1], three[2]), MotionDesk.BAD);
        }
        due("better, no members", new MotionDesk().better(0, 0, 0), MotionDesk.BAD);
    }

    private static void dueWon(MotionDesk desk, int motion, int way, int few, int which) {
        due("won(" + motion + ", " + way + ", 0)", desk.won(motion, way, 0), few);
        due("won(" + motion + ", " + way + ", 1)", desk.won(motion, way, 1), which);
    }

    private static void won() {
        MotionDesk desk = Check.told(RING);
        dueWon(desk, 0, 0, 0, 0);
        dueWon(desk, 0, 1, 1, 2);
        dueWon(desk, 1, 0, 1, 1);
        dueWon(desk, 2, 1, 0, 0);
        dueWon(Check.told("rabc;rabc;rabc;"), 2, 0, 2, 3);
        dueWon(Check.told("rabc;rabc;rcab;g(ac);"), 2, 0, 1, 1);
        dueWon(Check.told("rabc;rcab;rabc;rabc;rabc;g(ac);"), 2, 1, 2, 5);
        MotionDesk none = Check.told("rabc;g(ab);");
        dueWon(none, 2, 0, MotionDesk.NONE, MotionDesk.NONE);
        dueWon(none, 2, 1, MotionDesk.NONE, MotionDesk.NONE);
        dueWon(new MotionDesk(), 0, 0, 0, 0);
        dueWon(new MotionDesk(), 1, 0, MotionDesk.NONE, MotionDesk.NONE);
        dueWon(Check.told("n2;rba;rba;rba;rba;rba;rba;rba;rba;rba;"), 0, 1, 5, 31);
        MotionDesk four = Check.told("n4;rabcd;rabdc;rbacd;g((ad)(bc));");
        dueWon(four, 3, 0, 2, 3);
        dueWon(four, 2, 0, 2, 3);
        dueWon(four, 1, 1, 1, 1);
        dueWon(Check.told("n4;racdb;radcb;racbd;g(((ba)(ad))c);"), 1, 1, 2, 3);
        dueWon(Check.told("n4;rcbda;rcdab;g(((ad)(bc))b);"), 0, 1, 1, 1);
        dueWon(Check.told("n6;rabcdef;rabcdef;rabcdef;rabcdef;rabcdef;rabcdef;rabcdef;rabcdef;rabcdef;"), 5, 1, 5, 31);
        int[][] wrong = {{-1, 0, 0}, {3, 0, 0}, {0, -1, 0}, {0, 2, 0}, {0, 0, -1}, {0, 0, 2}};
        for (int[] three : wrong) {
            due("won, wrong", desk.won(three[0], three[1], three[2]), MotionDesk.BAD);
        }
    }

    private static void dueOdds(MotionDesk desk, int x, int motion, int way, int upper, int lower) {
        due("odds(" + x + ", " + motion + ", " + way + ", 0)", desk.odds(x, motion, way, 0), upper);
        due("odds(" + x + ", " + motion + ", " + way + ", 1)", desk.odds(x, motion, way, 1), lower);
    }

    private static void odds() {
        MotionDesk one = Check.told("n2;rba;");
        for (int way = 0; way < 2; way++) {
            dueOdds(one, 0, 0, way, 0, 1);
            dueOdds(one, 0, 1, way, 1, 1);
            dueOdds(one, 3, 0, way, 3, 10);
            dueOdds(one, 3, 1, way, 7, 10);
            dueOdds(one, 4, 0, way, 2, 5);
            dueOdds(one, 5, 1, way, 1, 2);
            dueOdds(one, 10, 0, way, 1, 1);
            dueOdds(one, 10, 1, way, 0, 1);
        }
        MotionDesk ring = Check.told(RING);
        dueOdds(ring, 5, 0, 0, 3, 4);
        dueOdds(ring, 5, 0, 1, 1, 2);
        dueOdds(ring, 5, 2, 1, 3, 8);
        dueOdds(new MotionDesk(), 3, 0, 0, 1, 1);
        dueOdds(new MotionDesk(), 3, 1, 0, 0, 1);
        dueOdds(Check.told("rabc;g(ab);"), 5, 2, 0, 0, 1);
        int[][] wrong = {
            {-1, 0, 0, 0}, {11, 0, 0, 0}, {0, -1, 0, 0}, {0, 3, 0, 0},
            {0, 0, -1, 0}, {0, 0, 2, 0}, {0, 0, 0, -1}, {0, 0, 0, 2}};
        for (int[] four : wrong) {
            due("odds, wrong", ring.odds(four[0], four[1], four[2], four[3]), MotionDesk.BAD);
        }
    }

    private static void oddsOfNine() {
        MotionDesk nine = Check.told("n2;rba;rba;rba;rba;rba;rba;rba;rba;rba;");
        for (int way = 0; way < 2; way++) {
            dueOdds(nine, 1, 0, way, 1, 1000000000);
            dueOdds(nine, 1, 1, way, 999999999, 1000000000);
            dueOdds(nine, 0, 1, way, 1, 1);
            dueOdds(nine, 10, 0, way, 1, 1);
            dueOdds(nine, 5, 0, way, 1, 512);
            dueOdds(nine, 9, 0, way, 387420489, 1000000000);
        }
    }

    private static void nothingIsChanged() {
        MotionDesk desk = Check.told("n4;rabcd;rbcda;rcdab;rdabc;g((ab)(cd));");
        desk.ranks(3, 0);
        int before = look(desk);
        for (int way = 0; way < 2; way++) {
            desk.reach(1, way, 0);
            desk.better(2, way, 1);
            desk.won(3, way, 1);
            desk.odds(7, 0, way, 0);
        }
        desk.order(5, 2);
        due("nothing is changed by looking", look(desk), before);
    }

    /** What can be seen of a desk, in one number. */
    private static int look(MotionDesk desk) {
        int sum = 0;
        for (int k = 0; k < desk.now(0); k++) {
            for (int what = 0; what < 7; what++) {
                sum = sum * 31 + desk.node(k, what);
            }
        }
        for (int member = 0; member < desk.count(1); member++) {
            for (int place = 0; place < desk.count(0); place++) {
                sum = sum * 31 + desk.ranking(member, place);
            }
        }
        for (int what = 0; what < 6; what++) {
            sum = sum * 31 + desk.now(what);
        }
        return sum;
    }
}
