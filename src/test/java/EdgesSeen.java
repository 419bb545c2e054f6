/** The edges of promises 18 to 21 (which ranking): a method for each sentence. */
public final class EdgesSeen {
    private static final Check CHECK = new Check("EdgesSeen");
    private static final String AGENDA = "g((ab)c);";
    private static final int NONE = MotionDesk.NONE;

    public static void main(String[] args) {
        sees();
        seesALeaf();
        seesSixAtMost();
        seesByMotionsAsTheyAre();
        seesWithoutMembers();
        forget();
        forgetNothing();
        rankings();
        rankingsOfAll();
        rankingsNone();
        rankingsOne();
        watchOneCanBeAtMost();
        watchNoVotes();
        watchTheLowestOfSeveral();
        watchTheGreaterPart();
        watchEachRankingOnce();
        watchTheLastVote();
        seenIsGoneBehindDesk();
        CHECK.end();
    }

    private static void due(String call, long got, long want) {
        CHECK.due(call, got, want);
    }

    // ---- promise 18

    /** "BAD" for a node, for a branch "(0), the second (1)". */
    private static void sees() {
        String[] texts = {"ga;", "n2;", AGENDA, "n4;", "n5;", "n6;"};
        int[] nodes = {1, 3, 5, 15, 31, 63};
        for (int i = 0; i < texts.length; i++) {
            String text = texts[i];
            CHECK.range("sees(.., 0) of " + text, 0, nodes[i] - 1, k -> Check.told(text).sees(k, 0));
            CHECK.range("sees(0, ..) of " + text, 0, 1, branch -> Check.told(text).sees(0, branch));
        }
    }

    /** "STATE: a LEAF." */
    private static void seesALeaf() {
        due("sees(0, 0), a leaf alone", Check.told("ga;").sees(0, 0), MotionDesk.STATE);
        due("sees(0, 2), a leaf alone", Check.told("ga;").sees(0, 2), MotionDesk.BAD);
        due("sees(0, -1), a leaf alone", Check.told("ga;").sees(0, -1), MotionDesk.BAD);
        due("sees(1, 0), a leaf alone", Check.told("ga;").sees(1, 0), MotionDesk.BAD);
        MotionDesk desk = Check.told(AGENDA);
        for (int k : new int[] {2, 3, 4}) {
            due("sees(" + k + ", 0), a leaf", desk.sees(k, 0), MotionDesk.STATE);
            due("sees(" + k + ", 1), a leaf", desk.sees(k, 1), MotionDesk.STATE);
        }
        due("count(3) behind leaves", desk.count(3), 0);
        due("rankings(0) behind leaves", desk.rankings(0), 6);
    }

    /** "SEEN (6 at most)": "how much there is"; "FULL". */
    private static void seesSixAtMost() {
        MotionDesk desk = Check.told(AGENDA);
        for (int many = 1; many <= 6; many++) {
            due("sees(1, 0)", desk.sees(1, 0), many);
            due("count(3)", desk.count(3), many);
        }
        due("sees(1, 0), a seventh", desk.sees(1, 0), MotionDesk.FULL);
        due("sees(0, 1), a seventh", desk.sees(0, 1), MotionDesk.FULL);
        due("sees(2, 0), full: STATE first", desk.sees(2, 0), MotionDesk.STATE);
        due("sees(5, 0), full: BAD first", desk.sees(5, 0), MotionDesk.BAD);
        due("sees(2, 2), full: BAD first", desk.sees(2, 2), MotionDesk.BAD);
        due("count(3), full", desk.count(3), 6);
        due("rankings(0), a seventh is not SEEN", desk.rankings(0), 3);
        desk.forget();
        due("sees(1, 1), no more full", desk.sees(1, 1), 1);
        due("rankings(1)", desk.rankings(1), 2);
    }

    /** "by MOTIONS of both branches as they are when it is SEEN (whatever THE AGENDA becomes)". */
    private static void seesByMotionsAsTheyAre() {
        MotionDesk desk = Check.told("rabc;" + AGENDA);
        desk.keep(0);
        desk.sees(0, 1);
        desk.swaps(0);
        due("rankings(0), turned", desk.rankings(0), 2);
        due("rankings(1), turned", desk.rankings(1), 4);
        desk.sets(1);
        due("rankings(1), set", desk.rankings(1), 4);
        desk.undo();
        due("rankings(1), undone", desk.rankings(1), 4);
        desk.back(0);
        due("rankings(1), back", desk.rankings(1), 4);
        due("count(3)", desk.count(3), 1);
        desk.swaps(0);
        desk.sees(0, 1);
        due("rankings(0), the other branch is second now", desk.rankings(0), 0);
    }

    /** "a MEMBER whose RANKING is not known": none of those that are told. */
    private static void seesWithoutMembers() {
        MotionDesk none = Check.told(AGENDA);
        MotionDesk nine = Check.told("rcba;".repeat(9) + AGENDA);
        for (MotionDesk desk : new MotionDesk[] {none, nine}) {
            due("sees(0, 0)", desk.sees(0, 0), 1);
            due("rankings(0)", desk.rankings(0), 4);
            due("rankings(1)", desk.rankings(1), 0);
            due("watch()", desk.watch(), 1);
        }
    }

    // ---- promise 19

    /** "Nothing is SEEN: how much was." */
    private static void forget() {
        for (int many = 0; many <= 6; many++) {
            MotionDesk desk = Check.told(AGENDA);
            for (int i = 0; i < many; i++) {
                desk.sees(0, i % 2);
            }
            due("forget() of " + many, desk.forget(), many);
            due("count(3)", desk.count(3), 0);
            due("rankings(0)", desk.rankings(0), 6);
            due("forget() again", desk.forget(), 0);
        }
    }

    /** Nothing else is changed by it. */
    private static void forgetNothing() {
        CHECK.changesNothing(Desks.NEW, "forget()", 0, MotionDesk::forget);
        CHECK.changesNothing(Desks.LEAF, "forget()", 0, MotionDesk::forget);
        MotionDesk desk = Desks.FULL.make();
        desk.forget();
        for (int i = 0; i < 6; i++) {
            desk.sees(i % 2, 0);
        }
        new Look(desk).dueAs(new Look(Desks.FULL.make()), CHECK, "forget(), and six SEEN again");
    }

    // ---- promise 20

    /** "BAD." */
    private static void rankings() {
        CHECK.range("rankings, new", 0, 1, what -> new MotionDesk().rankings(what));
        CHECK.range("rankings, full", 0, 1, what -> Desks.FULL.make().rankings(what));
    }

    /** "RANKINGS (of all)": nothing SEEN. */
    private static void rankingsOfAll() {
        int[] orders = {2, 6, 24, 120, 720};
        for (int motions = 2; motions <= 6; motions++) {
            MotionDesk desk = Check.told("n" + motions + ";");
            due("rankings(0), nothing SEEN", desk.rankings(0), orders[motions - 2]);
            due("rankings(1), nothing SEEN", desk.rankings(1), 0);
            desk.sees(0, 0);
            due("rankings(0), half of them", desk.rankings(0), orders[motions - 2] / 2);
            due("rankings(1), half of them", desk.rankings(1), 0);
        }
    }

    /** "the first; NONE". */
    private static void rankingsNone() {
        MotionDesk desk = Check.told("n2;");
        desk.sees(0, 0);
        due("rankings(0), one", desk.rankings(0), 1);
        due("rankings(1), one", desk.rankings(1), 0);
        desk.sees(0, 1);
        due("rankings(0), none", desk.rankings(0), 0);
        due("rankings(1), none", desk.rankings(1), NONE);
        desk.forget();
        desk.sees(0, 1);
        due("rankings(1), the last", desk.rankings(1), 1);
        MotionDesk like = Check.told("g(aa);");
        like.sees(0, 1);
        due("rankings(0), of like sets no one votes for the second", like.rankings(0), 0);
        MotionDesk ends = Check.told("g((ab)a);");
        ends.sees(0, 1);
        due("rankings(1), a set that ends is liked less", ends.rankings(1), NONE);
    }

    /** The fifth and the sixth count as the first does. */
    private static void rankingsOne() {
        MotionDesk desk = Check.told("n6;");
        for (int lower = 0; lower < 5; lower++) {
            desk.sets((lower + 1) * 120 + lower * 24);
            desk.sees(0, 0);
        }
        due("count(3)", desk.count(3), 5);
        due("rankings(0): f e d c b a", desk.rankings(0), 1);
        due("rankings(1): the last of all", desk.rankings(1), 719);
        due("watch()", desk.watch(), NONE);
        due("sees, the sixth, against it", desk.sees(0, 1), 6);
        due("rankings(0): none", desk.rankings(0), 0);
        due("rankings(1): none", desk.rankings(1), NONE);
    }

    // ---- promise 21

    /** "NONE (one can be at most ..". */
    private static void watchOneCanBeAtMost() {
        MotionDesk desk = Check.told("n2;");
        due("watch(), two can be", desk.watch(), 0);
        desk.sees(0, 1);
        due("watch(), one can be", desk.watch(), NONE);
        desk.sees(0, 0);
        due("watch(), none can be", desk.watch(), NONE);
        desk.forget();
        due("watch(), two again", desk.watch(), 0);
    }

    /** "no VOTES)". */
    private static void watchNoVotes() {
        MotionDesk desk = Check.told("ga;");
        due("watch(), no votes", desk.watch(), NONE);
        desk.sets(0);
        due("watch(), votes", desk.watch(), 0);
        desk.undo();
        due("watch(), no votes again", desk.watch(), NONE);
    }

    /** "of several the lowest". */
    private static void watchTheLowestOfSeveral() {
        due("all like good", new MotionDesk().watch(), 0);
        due("both branches like good", Check.told("g((ab)(ba));").watch(), 1);
        due("none is good", Check.told("g(a(aa));").watch(), 0);
        due("none is good, all three", Check.told("g((aa)(aa));").watch(), 0);
    }

    /** "first or second, the greater part of these is smallest": each side may be the greater one. */
    private static void watchTheGreaterPart() {
        due("2 of 6 for the second: 4; 3 of 6", Check.told("g((ab)c);").watch(), 1);
        due("2 of 6 for the first: 4; 3 of 6", Check.told("g(c(ab));").watch(), 2);
        due("0 for the first: 6; 3 of 6", Check.told("g(a(ab));").watch(), 2);
        due("0 for the second: 6; 3 of 6", Check.told("g((ab)a);").watch(), 1);
        MotionDesk desk = Check.told("g((ab)c);");
        desk.sees(1, 0);
        due("of 3: 1 for c; 0 for b", desk.watch(), 0);
    }

    /** "the greater part of these": each that can be, the first and the last of all, too, counts once. */
    private static void watchEachRankingOnce() {
        due("3 of 6, not 4, g((ca)b)", Check.told("g((ca)b);").watch(), 1);
        due("3 of 6, not 4, g((cb)a)", Check.told("g((cb)a);").watch(), 1);
        due("3 of 6, not 4, g(c(ab))", Check.told("g(c(ab));").watch(), 2);
        MotionDesk four = Check.told("n4;g(((bb)c)((bd)(da)));");
        four.sees(0, 1);
        due("the last vote", four.watch(), 10);
        MotionDesk first = Check.told("g(a(cb));");
        first.sees(0, 0);
        due("the first of all, and another one", first.watch(), 2);
        MotionDesk last = Check.told("g((ab)c);");
        last.sees(0, 1);
        due("the last of all, and another one", last.watch(), 1);
        MotionDesk even = Check.told("g((bc)(ab));");
        even.sees(1, 0);
        due("of several the lowest", even.watch(), 0);
    }

    /** The last vote that may be. */
    private static void watchTheLastVote() {
        due("the last of 31 nodes", Check.told("g" + "(a".repeat(14) + "(ab)" + ")".repeat(14) + ";").watch(), 28);
        MotionDesk six = Check.told("n6;");
        six.swaps(0);
        due("the root of 63", six.watch(), 0);
    }

    /** "(Read anew: .. nothing SEEN ..". */
    private static void seenIsGoneBehindDesk() {
        MotionDesk desk = Desks.FULL.make();
        due("desk()", desk.desk(), 2);
        due("count(3)", desk.count(3), 0);
        due("rankings(0)", desk.rankings(0), 6);
        due("forget()", desk.forget(), 0);
    }
}
