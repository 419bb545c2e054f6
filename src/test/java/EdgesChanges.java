/** The edges of promises 9 to 12 (ranked, turned, set, undone): a method for each sentence. */
public final class EdgesChanges {
    private static final Check CHECK = new Check("EdgesChanges");
    private static final int[] ORDERS = {2, 6, 24, 120, 720};
    private static final int[] NODES = {3, 7, 15, 31, 63};

    public static void main(String[] args) {
        ranks();
        ranksNotTheLastPlace();
        ranksOfNoMember();
        ranksChangesThatPlaceAndTheNext();
        swaps();
        swapsOfALeaf();
        swapsOfTheRootAndOfTheLastVote();
        swapsOf63Nodes();
        sets();
        setsAnyAgenda();
        undoOfNone();
        undoOfOne();
        undoTheLatestNotRefused();
        undoKnowsTen();
        undoBehindTenGoesOn();
        undoBehindBackAndDesk();
        undoLeavesTheRest();
        CHECK.end();
    }

    private static void due(String call, long got, long want) {
        CHECK.due(call, got, want);
    }

    private static String backwards(int motions) {
        return new StringBuilder("abcdef".substring(0, motions)).reverse().toString();
    }

    private static void dueKinds(String name, MotionDesk desk, int... kinds) {
        due(name + ", now(0)", desk.now(0), kinds.length);
        for (int k = 0; k < kinds.length; k++) {
            due(name + ", node(" + k + ", 0)", desk.node(k, 0), kinds[k]);
        }
    }

    private static void dueRanking(String name, MotionDesk desk, int member, String letters) {
        for (int place = 0; place < letters.length(); place++) {
            due(name + ", ranking(" + member + ", " + place + ")", desk.ranking(member, place), letters.charAt(place) - 'a');
        }
    }

    // ---- promise 9

    /** "BAD." for a member, for a place. */
    private static void ranks() {
        for (int motions = 2; motions <= 6; motions++) {
            String text = "n" + motions + ";" + ("r" + backwards(motions) + ";").repeat(9);
            CHECK.range("ranks(.., 0)", 0, 8, member -> Check.told(text).ranks(member, 0));
            CHECK.range("ranks(8, ..), n" + motions, 0, motions - 2, place -> Check.told(text).ranks(8, place));
        }
        CHECK.range("ranks(.., 0) of one", 0, 0, member -> Check.told("rabc;").ranks(member, 0));
    }

    /** "BAD (the last place, too)": nothing changes then. */
    private static void ranksNotTheLastPlace() {
        for (int motions = 2; motions <= 6; motions++) {
            String text = "n" + motions + ";r" + backwards(motions) + ";r" + backwards(motions) + ";";
            MotionDesk desk = Check.told(text);
            due("ranks, the last place", desk.ranks(0, motions - 1), MotionDesk.BAD);
            due("ranks, behind the last place", desk.ranks(0, motions), MotionDesk.BAD);
            dueRanking("behind refused ones", desk, 0, backwards(motions));
            dueRanking("behind refused ones", desk, 1, backwards(motions));
            due("now(5) behind refused ones", desk.now(5), 0);
        }
    }

    private static void ranksOfNoMember() {
        due("ranks(0, 0), no members", new MotionDesk().ranks(0, 0), MotionDesk.BAD);
        due("ranks(9, 0), nine members", Check.told("rabc;".repeat(9)).ranks(9, 0), MotionDesk.BAD);
    }

    /** "in a MEMBER's RANKING the MOTION at a place and the next one change": the first, the last such place. */
    private static void ranksChangesThatPlaceAndTheNext() {
        MotionDesk desk = Check.told("n6;" + "rabcdef;".repeat(9));
        due("ranks(0, 0)", desk.ranks(0, 0), 0);
        dueRanking("ranks(0, 0)", desk, 0, "bacdef");
        due("ranks(8, 4)", desk.ranks(8, 4), 0);
        dueRanking("ranks(8, 4)", desk, 8, "abcdfe");
        dueRanking("another member", desk, 1, "abcdef");
        dueRanking("another member", desk, 7, "abcdef");
        due("votes(1, 0)", desk.votes(1, 0), 1);
        due("votes(5, 4)", desk.votes(5, 4), 1);
        MotionDesk two = Check.told("n2;rab;");
        due("ranks(0, 0) of two: FORESEEN then", two.ranks(0, 0), 1);
        due("ranks(0, 0) of two, again", two.ranks(0, 0), 0);
        due("FORESEEN, not SINCERE (a)", Check.told("rabc;rabc;rcba;g(ba);").ranks(0, 0), 1);
        due("as many: the lower one", Check.told("n2;rab;rab;g(ba);").ranks(1, 0), 0);
    }

    // ---- promise 10

    /** "BAD; STATE: a LEAF." */
    private static void swaps() {
        String[] texts = {"ga;", "n2;", "g((ab)c);", "n4;", "n5;", "n6;"};
        int[] nodes = {1, 3, 5, 15, 31, 63};
        for (int i = 0; i < texts.length; i++) {
            String text = texts[i];
            CHECK.range("swaps of " + text, 0, nodes[i] - 1, k -> Check.told(text).swaps(k));
        }
    }

    /** "STATE: a LEAF." */
    private static void swapsOfALeaf() {
        due("swaps(0), a leaf alone", Check.told("ga;").swaps(0), MotionDesk.STATE);
        due("swaps(1), a leaf alone", Check.told("ga;").swaps(1), MotionDesk.BAD);
        MotionDesk desk = Check.told("g((ab)c);");
        for (int k : new int[] {2, 3, 4}) {
            due("swaps(" + k + "), a leaf", desk.swaps(k), MotionDesk.STATE);
        }
        due("now(5) behind leaves", desk.now(5), 0);
        dueKinds("behind leaves", desk, -9, -9, 0, 1, 2);
    }

    /** "both branches of a VOTE change (NODES are numbered anew)". */
    private static void swapsOfTheRootAndOfTheLastVote() {
        MotionDesk desk = Check.told("n4;g(a(b(cd)));");
        due("swaps(4): SINCERE then", desk.swaps(4), 0);
        dueKinds("swaps(4)", desk, -9, 0, -9, 1, -9, 3, 2);
        due("swaps(0): SINCERE then", desk.swaps(0), 1);
        dueKinds("swaps(0)", desk, -9, -9, 1, -9, 3, 2, 0);
        due("swaps(0) again", desk.swaps(0), 0);
        dueKinds("swaps(0) again", desk, -9, 0, -9, 1, -9, 3, 2);
        due("SINCERE (b), not FORESEEN (a)", Check.told("n2;rab;rba;g(ab);").swaps(0), 1);
        due("SINCERE of the second branch", Check.told("rabc;g(a(bc));").swaps(0), 0);
        MotionDesk like = Check.told("rabc;g((ab)(ab));");
        due("like branches", like.swaps(0), 0);
        due("now(5): like branches change, too", like.now(5), 1);
    }

    private static void swapsOf63Nodes() {
        MotionDesk desk = Check.told("n6;");
        due("swaps(60): the last vote", desk.swaps(60), 0);
        due("node(61, 0)", desk.node(61, 0), 5);
        due("node(62, 0)", desk.node(62, 0), 4);
        due("swaps(61), a leaf", desk.swaps(61), MotionDesk.STATE);
        due("swaps(62), a leaf", desk.swaps(62), MotionDesk.STATE);
        due("swaps(63)", desk.swaps(63), MotionDesk.BAD);
        due("swaps(0)", desk.swaps(0), 1);
        due("now(0)", desk.now(0), 63);
        due("node(30, 0): numbered anew", desk.node(30, 0), 5);
        due("node(31, 0): numbered anew", desk.node(31, 0), 4);
        due("node(32, 3): the other branch", desk.node(32, 3), 61);
    }

    // ---- promise 11

    /** "SET: how many NODES. BAD.": the first and the last order of all. */
    private static void sets() {
        for (int motions = 2; motions <= 6; motions++) {
            String text = "n" + motions + ";ga;";
            CHECK.range("sets, n" + motions, 0, ORDERS[motions - 2] - 1, k -> Check.told(text).sets(k));
            MotionDesk desk = Check.told(text);
            due("sets, the last", desk.sets(ORDERS[motions - 2] - 1), NODES[motions - 2]);
            due("the first leaf", desk.node(motions - 1, 0), motions - 1);
            due("the last leaf", desk.node(NODES[motions - 2] - 1, 0), 0);
            due("sets, the first", desk.sets(0), NODES[motions - 2]);
            due("the first leaf", desk.node(motions - 1, 0), 0);
            due("sets, one too many", desk.sets(ORDERS[motions - 2]), MotionDesk.BAD);
            due("now(5)", desk.now(5), 2);
        }
    }

    /** "THE AGENDA becomes that of the order": from a leaf, from 31 told nodes, from itself. */
    private static void setsAnyAgenda() {
        MotionDesk leaf = Check.told("ga;");
        due("sets(0) of a leaf", leaf.sets(0), 7);
        due("sets(0) of itself", leaf.sets(0), 7);
        due("now(5): itself counts, too", leaf.now(5), 2);
        MotionDesk most = Check.told("n2;g" + "(a".repeat(15) + "b" + ")".repeat(15) + ";");
        due("sets(1) of 31 nodes", most.sets(1), 3);
        dueKinds("sets(1)", most, -9, 1, 0);
        due("node(3, 0)", most.node(3, 0), MotionDesk.BAD);
        due("undo()", most.undo(), 0);
        due("now(0): 31 again", most.now(0), 31);
        due("node(30, 0)", most.node(30, 0), 1);
    }

    // ---- promise 12

    /** "STATE: none." */
    private static void undoOfNone() {
        due("undo(), new", new MotionDesk().undo(), MotionDesk.STATE);
        due("undo(), told", Check.told("rabc;").undo(), MotionDesk.STATE);
        MotionDesk desk = Check.told("rabc;g((ab)c);");
        desk.ranks(0, 2);
        desk.ranks(1, 0);
        desk.swaps(2);
        desk.swaps(5);
        desk.sets(6);
        desk.sets(-1);
        due("undo(), all were refused", desk.undo(), MotionDesk.STATE);
        desk.sees(0, 0);
        desk.forget();
        desk.keep(0);
        desk.type('a');
        desk.clear();
        due("undo(), other calls", desk.undo(), MotionDesk.STATE);
        CHECK.changesNothing(Desks.NEW, "undo()", MotionDesk.STATE, MotionDesk::undo);
    }

    /** "UNDONE: how many more may be." */
    private static void undoOfOne() {
        MotionDesk desk = Check.told("rabc;g((ab)c);");
        desk.ranks(0, 1);
        due("undo() of ranks", desk.undo(), 0);
        dueRanking("undo() of ranks", desk, 0, "abc");
        desk.swaps(0);
        due("undo() of swaps", desk.undo(), 0);
        dueKinds("undo() of swaps", desk, -9, -9, 0, 1, 2);
        desk.sets(5);
        due("undo() of sets", desk.undo(), 0);
        dueKinds("undo() of sets", desk, -9, -9, 0, 1, 2);
        due("undo(), none more", desk.undo(), MotionDesk.STATE);
        dueKinds("undo(), none more", desk, -9, -9, 0, 1, 2);
    }

    /** "the latest ranks(), swaps(), sets() that was not refused". */
    private static void undoTheLatestNotRefused() {
        MotionDesk desk = Check.told("rabc;g((ab)c);");
        desk.ranks(0, 0);
        desk.ranks(0, 2);
        desk.swaps(4);
        desk.sets(6);
        due("undo(), refused ones behind", desk.undo(), 0);
        dueRanking("undo(), refused ones behind", desk, 0, "abc");
        MotionDesk full = Desks.FULL.make();
        full.ranks(0, 2);
        full.swaps(4);
        full.sets(6);
        due("undo(), full, refused ones behind", full.undo(), 9);
        dueKinds("undo(), full", full, -9, -9, 0, 1, 2);
        full.ranks(0, 1);
        due("now(5), ten again", full.now(5), 10);
    }

    /** "(10 are known, older ones are lost)": the tenth, the eleventh. */
    private static void undoKnowsTen() {
        for (int changes : new int[] {9, 10, 11, 20, 21}) {
            MotionDesk desk = Check.told("n6;");
            for (int i = 1; i <= changes; i++) {
                due("sets(" + i + ")", desk.sets(i), 63);
            }
            int known = Math.min(changes, 10);
            for (int left = known - 1; left >= 0; left--) {
                due("undo(), of " + changes, desk.undo(), left);
            }
            due("undo(), older ones are lost", desk.undo(), MotionDesk.STATE);
            dueAgendaOf(changes - known, desk);
        }
    }

    /** The agenda of an order has the order's motions as leaves (the last ones of the branches). */
    private static void dueAgendaOf(int order, MotionDesk desk) {
        MotionDesk other = Check.told("n6;");
        other.sets(order);
        for (int k = 0; k < 63; k++) {
            due("agenda of " + order + ", node(" + k + ", 0)", desk.node(k, 0), other.node(k, 0));
        }
    }

    /** What is undone makes room for another one. */
    private static void undoBehindTenGoesOn() {
        MotionDesk desk = Check.told("n2;");
        for (int i = 0; i < 15; i++) {
            desk.sets(i % 2);
        }
        for (int i = 0; i < 4; i++) {
            desk.undo();
        }
        due("now(5), four undone", desk.now(5), 6);
        for (int many = 7; many <= 12; many++) {
            desk.swaps(0);
            due("now(5), others instead", desk.now(5), Math.min(many, 10));
        }
        for (int left = 9; left >= 0; left--) {
            due("undo()", desk.undo(), left);
        }
        due("undo(), none", desk.undo(), MotionDesk.STATE);
    }

    /** "nothing can be UNDONE behind back()"; "Read anew: .. nothing can be UNDONE". */
    private static void undoBehindBackAndDesk() {
        MotionDesk back = Desks.FULL.make();
        back.back(0);
        due("now(5) behind back()", back.now(5), 0);
        due("undo() behind back()", back.undo(), MotionDesk.STATE);
        back.sets(1);
        due("undo() of one behind back()", back.undo(), 0);
        dueKinds("undo() of one behind back()", back, -9, -9, 0, 1, 2);
        MotionDesk desk = Desks.FULL.make();
        desk.desk();
        due("now(5) behind desk()", desk.now(5), 0);
        due("undo() behind desk()", desk.undo(), MotionDesk.STATE);
    }

    /** What is no ranking and no agenda stays behind undo(). */
    private static void undoLeavesTheRest() {
        MotionDesk desk = Desks.FULL.make();
        int rankings = desk.rankings(0);
        for (int i = 0; i < 10; i++) {
            desk.undo();
        }
        due("count(3)", desk.count(3), 6);
        due("rankings(0)", desk.rankings(0), rankings);
        due("count(4)", desk.count(4), 120);
        due("back(0)", desk.back(0), 5);
        due("back(1)", desk.back(1), 5);
    }
}
