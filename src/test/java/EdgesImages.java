/** The edges of promises 22 to 24 (images, counts): a method for each sentence. */
public final class EdgesImages {
    private static final Check CHECK = new Check("EdgesImages");
    private static final String RING = "rabc;rbca;rcab;g((ab)c);";

    public static void main(String[] args) {
        keep();
        keepNodes();
        keepAgain();
        keepChangesNothingElse();
        back();
        backOfNone();
        backOfTheOther();
        backIsAsItWasKept();
        backAsOftenAsWanted();
        backNothingElse();
        backNothingCanBeUndone();
        imagesAreGoneBehindDesk();
        imagesStayAtAFault();
        count();
        countMotionsAndOrders();
        countMembers();
        countSeen();
        countLetters();
        CHECK.end();
    }

    private static void due(String call, long got, long want) {
        CHECK.due(call, got, want);
    }

    // ---- promise 22

    /** "IMAGES 0, 1"; "BAD." */
    private static void keep() {
        CHECK.range("keep, new", 0, 1, image -> new MotionDesk().keep(image));
        CHECK.range("keep, full", 0, 1, image -> Desks.FULL.make().keep(image));
    }

    /** "An IMAGE is kept: NODES." */
    private static void keepNodes() {
        due("keep(0), the fewest", Check.told("ga;").keep(0), 1);
        due("keep(1), two motions", Check.told("n2;").keep(1), 3);
        due("keep(0), the most told", Check.told("g" + "(a".repeat(15) + "a" + ")".repeat(15) + ";").keep(0), 31);
        MotionDesk most = Check.told("n6;" + "rfedcba;".repeat(9));
        due("keep(1), the most of all", most.keep(1), 63);
        most.swaps(0);
        most.ranks(8, 4);
        due("back(1), the most of all", most.back(1), 63);
        due("node(62, 0)", most.node(62, 0), 5);
        due("node(5, 0)", most.node(5, 0), 0);
        due("ranking(8, 5)", most.ranking(8, 5), 0);
        due("ranking(8, 4)", most.ranking(8, 4), 1);
    }

    /** One that is there already: the later one stands. */
    private static void keepAgain() {
        MotionDesk desk = Check.told(RING);
        due("keep(0)", desk.keep(0), 5);
        desk.sets(5);
        due("keep(0) again", desk.keep(0), 7);
        due("keep(1)", desk.keep(1), 7);
        desk.undo();
        due("keep(1) again", desk.keep(1), 5);
        due("back(0): the later one", desk.back(0), 7);
        due("back(1): the later one", desk.back(1), 5);
    }

    private static void keepChangesNothingElse() {
        MotionDesk desk = Desks.SOME.make();
        desk.keep(0);
        int undone = desk.now(5);
        due("now(5) behind keep(0)", undone, 2);
        due("count(3) behind keep(0)", desk.count(3), 1);
        due("count(4) behind keep(0)", desk.count(4), 8);
        due("back(1): the other one stays", desk.back(1), 5);
        due("ranking(0, 1) of the other one", desk.ranking(0, 1), 1);
        due("node(1, 0) of the other one", desk.node(1, 0), MotionDesk.NONE);
        due("back(0)", desk.back(0), 5);
        due("ranking(0, 1)", desk.ranking(0, 1), 2);
        due("node(1, 0)", desk.node(1, 0), 2);
        MotionDesk full = Desks.FULL.make();
        full.keep(0);
        due("now(5) behind keep(0), full", full.now(5), 10);
        due("count(3) behind keep(0), full", full.count(3), 6);
        due("count(4) behind keep(0), full", full.count(4), 120);
    }

    // ---- promise 23

    /** "BAD; STATE: none was kept.": BAD first. */
    private static void back() {
        CHECK.range("back, none kept", 0, 1, image -> new MotionDesk().back(image));
        CHECK.range("back, both kept", 0, 1, image -> Desks.FULL.make().back(image));
    }

    /** "STATE: none was kept." */
    private static void backOfNone() {
        due("back(0), new", new MotionDesk().back(0), MotionDesk.STATE);
        due("back(1), new", new MotionDesk().back(1), MotionDesk.STATE);
        MotionDesk refused = new MotionDesk();
        refused.keep(2);
        refused.keep(-1);
        due("back(0), only refused ones", refused.back(0), MotionDesk.STATE);
        due("back(1), only refused ones", refused.back(1), MotionDesk.STATE);
    }

    /** One is kept, the other is not. */
    private static void backOfTheOther() {
        MotionDesk first = new MotionDesk();
        first.keep(0);
        due("back(1), 0 is kept", first.back(1), MotionDesk.STATE);
        due("back(0), 0 is kept", first.back(0), 7);
        MotionDesk second = new MotionDesk();
        second.keep(1);
        due("back(0), 1 is kept", second.back(0), MotionDesk.STATE);
        due("back(1), 1 is kept", second.back(1), 7);
    }

    /** "All of that becomes as an IMAGE has it". */
    private static void backIsAsItWasKept() {
        for (int image = 0; image < 2; image++) {
            MotionDesk desk = Check.told(RING);
            desk.keep(image);
            desk.ranks(0, 0);
            desk.ranks(2, 1);
            desk.swaps(0);
            desk.sets(3);
            due("back", desk.back(image), 5);
            MotionDesk kept = Check.told(RING);
            kept.keep(image);
            new Look(desk).dueAs(new Look(kept), CHECK, "back(" + image + ")");
        }
        MotionDesk none = new MotionDesk();
        none.keep(0);
        none.sets(5);
        due("back(0), no members", none.back(0), 7);
        due("node(2, 0)", none.node(2, 0), 0);
    }

    /** An image is not used up by back(), and is not changed by what comes behind it. */
    private static void backAsOftenAsWanted() {
        MotionDesk desk = Check.told(RING);
        desk.keep(1);
        for (int time = 0; time < 3; time++) {
            desk.ranks(0, 0);
            desk.swaps(1);
            due("back(1)", desk.back(1), 5);
            due("ranking(0, 0)", desk.ranking(0, 0), 0);
            due("node(2, 0)", desk.node(2, 0), 0);
        }
        due("back(1), nothing between", desk.back(1), 5);
    }

    /** "IMAGES 0, 1 keep RANKINGS, THE AGENDA; nothing else". */
    private static void backNothingElse() {
        MotionDesk desk = Desks.FULL.make();
        int rankings = desk.rankings(0);
        desk.back(0);
        due("count(3): SEEN stays", desk.count(3), 6);
        due("rankings(0): SEEN stays", desk.rankings(0), rankings);
        due("count(4): THE TEXT stays", desk.count(4), 120);
        due("back(1): the other image stays", desk.back(1), 5);
        desk.forget();
        desk.clear();
        desk.back(0);
        due("count(3): not brought back", desk.count(3), 0);
        due("count(4): not brought back", desk.count(4), 0);
        MotionDesk later = Check.told(RING);
        later.sees(0, 0);
        later.keep(0);
        later.sees(1, 0);
        later.back(0);
        due("count(3): as it is, not as it was", later.count(3), 2);
    }

    /** "(nothing can be UNDONE behind back())": back() itself neither. */
    private static void backNothingCanBeUndone() {
        MotionDesk desk = Check.told(RING);
        desk.keep(0);
        desk.back(0);
        due("now(5)", desk.now(5), 0);
        due("undo()", desk.undo(), MotionDesk.STATE);
        for (int i = 0; i < 10; i++) {
            desk.sets(i % 6);
        }
        due("now(5), ten", desk.now(5), 10);
        due("back(1) refused", desk.back(1), MotionDesk.STATE);
        due("now(5), a refused back()", desk.now(5), 10);
        desk.back(0);
        due("now(5), behind back()", desk.now(5), 0);
        due("undo()", desk.undo(), MotionDesk.STATE);
        due("now(0): not undone", desk.now(0), 5);
    }

    /** "(Read anew: .. IMAGES are gone.)" */
    private static void imagesAreGoneBehindDesk() {
        MotionDesk desk = Desks.FULL.make();
        due("desk()", desk.desk(), 2);
        due("back(0)", desk.back(0), MotionDesk.STATE);
        due("back(1)", desk.back(1), MotionDesk.STATE);
        MotionDesk empty = Check.told(RING);
        empty.keep(0);
        empty.keep(1);
        due("desk() of nothing", empty.desk(), 0);
        due("back(0), nothing was told", empty.back(0), MotionDesk.STATE);
        due("back(1), nothing was told", empty.back(1), MotionDesk.STATE);
        due("keep(0)", empty.keep(0), 7);
        due("back(0), kept again", empty.back(0), 7);
        due("back(1), still gone", empty.back(1), MotionDesk.STATE);
    }

    private static void imagesStayAtAFault() {
        MotionDesk desk = Check.told(RING);
        desk.keep(0);
        due("desk(), a fault", Check.tell(desk, "n2;x"), -13);
        due("back(0)", desk.back(0), 5);
        due("back(1)", desk.back(1), MotionDesk.STATE);
    }

    // ---- promise 24

    /** "BAD." */
    private static void count() {
        CHECK.range("count, new", 0, 4, what -> new MotionDesk().count(what));
        CHECK.range("count, full", 0, 4, what -> Desks.FULL.make().count(what));
    }

    /** "0 MOTIONS", "2 how many orders there are". */
    private static void countMotionsAndOrders() {
        int[] orders = {2, 6, 24, 120, 720};
        for (int motions = 2; motions <= 6; motions++) {
            MotionDesk desk = Check.told("n" + motions + ";ga;");
            due("count(0)", desk.count(0), motions);
            due("count(2)", desk.count(2), orders[motions - 2]);
        }
    }

    /** "1 MEMBERS". */
    private static void countMembers() {
        due("count(1), none", new MotionDesk().count(1), 0);
        due("count(1), one", Check.told("rabc;").count(1), 1);
        due("count(1), nine", Check.told("rabc;".repeat(9)).count(1), 9);
        MotionDesk fewer = Check.told("rabc;".repeat(9));
        fewer.desk();
        due("count(1), read anew", fewer.count(1), 0);
    }

    /** "3 SEEN". */
    private static void countSeen() {
        MotionDesk desk = Check.told(RING);
        for (int many = 0; many <= 7; many++) {
            due("count(3)", desk.count(3), Math.min(many, 6));
            desk.sees(0, 0);
        }
    }

    /** "4 letters of THE TEXT". */
    private static void countLetters() {
        MotionDesk desk = new MotionDesk();
        for (int many = 0; many <= 121; many++) {
            due("count(4)", desk.count(4), Math.min(many, 120));
            desk.type(' ');
        }
        desk.desk();
        due("count(4) behind desk()", desk.count(4), 0);
        desk.type('x');
        desk.desk();
        due("count(4) behind a fault", desk.count(4), 1);
        desk.clear();
        due("count(4) behind clear()", desk.count(4), 0);
    }
}
