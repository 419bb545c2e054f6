/** Promises 18 to 21: of which ranking one is, by how it voted; which vote to watch next. */
public final class PromisesSeen {
    private static final Check CHECK = new Check("PromisesSeen");
    private static final String AGENDA = "g((ab)c);";

    public static void main(String[] args) {
        sees();
        seesAsItWas();
        forget();
        rankings();
        watch();
        CHECK.end();
    }

    private static void due(String call, long got, long want) {
        CHECK.due(call, got, want);
    }

    private static void sees() {
        MotionDesk desk = Check.told(AGENDA);
        due("sees(2, 0), a leaf", desk.sees(2, 0), MotionDesk.STATE);
        due("sees(2, 2), a leaf", desk.sees(2, 2), MotionDesk.BAD);
        due("sees(5, 0)", desk.sees(5, 0), MotionDesk.BAD);
        due("sees(-1, 0)", desk.sees(-1, 0), MotionDesk.BAD);
        due("sees(0, -1)", desk.sees(0, -1), MotionDesk.BAD);
        due("count(3)", desk.count(3), 0);
        for (int many = 1; many <= 6; many++) {
            due("sees(0, 0)", desk.sees(0, 0), many);
        }
        due("sees(0, 0), the seventh", desk.sees(0, 0), MotionDesk.FULL);
        due("sees(1, 1), the seventh", desk.sees(1, 1), MotionDesk.FULL);
        due("sees(2, 0), a leaf, full", desk.sees(2, 0), MotionDesk.STATE);
        due("sees(0, 2), full", desk.sees(0, 2), MotionDesk.BAD);
        due("count(3), full", desk.count(3), 6);
        due("rankings(0), the refused ones are not SEEN", desk.rankings(0), 4);
    }

    private static void seesAsItWas() {
        MotionDesk desk = Check.told("rabc;" + AGENDA);
        desk.sees(0, 1);
        for (int time = 0; time < 4; time++) {
            due("rankings(0)", desk.rankings(0), 2);
            due("rankings(1)", desk.rankings(1), 4);
            if (time == 0) {
                desk.swaps(0);
            } else if (time == 1) {
                desk.sets(3);
            } else {
                desk.ranks(0, 1);
            }
        }
        desk.undo();
        due("count(3) behind undo()", desk.count(3), 1);
    }

    private static void forget() {
        MotionDesk desk = Check.told(AGENDA);
        due("forget(), nothing", desk.forget(), 0);
        desk.sees(0, 1);
        desk.sees(1, 0);
        due("rankings(0)", desk.rankings(0), 1);
        due("forget()", desk.forget(), 2);
        due("count(3)", desk.count(3), 0);
        due("rankings(0), nothing SEEN", desk.rankings(0), 6);
        due("forget() again", desk.forget(), 0);
        for (int i = 0; i < 6; i++) {
            desk.sees(0, 0);
        }
        due("forget() of six", desk.forget(), 6);
        due("sees() behind it", desk.sees(0, 0), 1);
    }

    private static void rankings() {
        MotionDesk desk = Check.told("rcba;" + AGENDA);
        due("rankings(0), of all", desk.rankings(0), 6);
        due("rankings(1), of all", desk.rankings(1), 0);
        desk.sees(1, 1);
        due("rankings(0), b above a", desk.rankings(0), 3);
        due("rankings(1), b above a", desk.rankings(1), 2);
        desk.sees(0, 1);
        due("rankings(0), c b a", desk.rankings(0), 1);
        due("rankings(1), c b a", desk.rankings(1), 5);
        desk.sees(0, 0);
        due("rankings(0), none can be", desk.rankings(0), 0);
        due("rankings(1), none can be", desk.rankings(1), MotionDesk.NONE);
        due("rankings(2)", desk.rankings(2), MotionDesk.BAD);
        due("rankings(-1)", desk.rankings(-1), MotionDesk.BAD);
        MotionDesk like = Check.told("n6;g((ab)(ba));");
        like.sees(0, 0);
        due("rankings(0), like sets, the first", like.rankings(0), 720);
        like.sees(0, 1);
        due("rankings(0), like sets, the second", like.rankings(0), 0);
        MotionDesk ends = Check.told("g(a(ab));");
        ends.sees(0, 0);
        due("rankings(0), no one likes less", ends.rankings(0), 0);
    }

    private static void watch() {
        MotionDesk desk = Check.told(AGENDA);
        due("watch(): 3 of 6, not 4", desk.watch(), 1);
        desk.sees(0, 1);
        due("watch(): 1 of 2", desk.watch(), 1);
        desk.sees(1, 0);
        due("watch(): one can be", desk.watch(), MotionDesk.NONE);
        desk.sees(1, 1);
        due("watch(): none can be", desk.watch(), MotionDesk.NONE);
        due("watch(), as many of each: the root", new MotionDesk().watch(), 0);
        MotionDesk six = Check.told("n6;");
        due("watch() of 63 nodes", six.watch(), 0);
        six.sees(0, 1);
        due("rankings(0): b above a", six.rankings(0), 360);
        due("watch(), b above a: e or f, 180 of 360", six.watch(), 7);
        due("watch(), no votes", Check.told("ga;").watch(), MotionDesk.NONE);
        due("watch(), the lowest of several", Check.told("g((ab)(ab));").watch(), 1);
        due("watch(), the root", Check.told("g((aa)(bb));").watch(), 0);
        due("watch(), a vote that tells nothing", Check.told("g(aa);").watch(), 0);
        MotionDesk turned = Check.told("g(c(ab));");
        due("watch(), numbered by the agenda", turned.watch(), 2);
        turned.swaps(0);
        due("watch(), numbered anew", turned.watch(), 1);
    }
}
