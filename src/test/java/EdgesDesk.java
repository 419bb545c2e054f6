/** The edges of the terms' second part and of promises 5 to 8: a method for each sentence. */
public final class EdgesDesk {
    private static final Check CHECK = new Check("EdgesDesk");
    private static final String RING = "rabc;rbca;rcab;g((ab)c);";

    public static void main(String[] args) {
        beatsByMore();
        beatsByAsManyIfLower();
        topIsNotEmpty();
        topMayBeAll();
        topIsTheSmallestSet();
        theOrderOfTwoIsOneVote();
        theOrderOfSixHas63Nodes();
        sincereByTheFirstPlaceThatDiffers();
        sincereASetThatEndsIsLikedLess();
        sincereOfLikeSetsTheFirst();
        sincereAsManyTheFirst();
        foreseenByOutcomesOfBothBranches();
        foreseenOfLikeOnesTheFirst();
        noMembers();
        ranking();
        rankingOfNone();
        node();
        nodeOfALeaf();
        nodeOfAVote();
        nodeHowManyVoteForTheFirst();
        votes();
        votesOfTheSame();
        votesOfNoneAndOfNine();
        now();
        nowHowManyNodes();
        nowTheMotionThatBeatsAll();
        nowHowManyMayBeUndone();
        CHECK.end();
    }

    private static void due(String call, long got, long want) {
        CHECK.due(call, got, want);
    }

    // ---- terms, the second part

    /** "A MOTION BEATS another one, if more MEMBERS rank it higher": by one, by all. */
    private static void beatsByMore() {
        due("5 of 9 for b", Check.told("n2;" + "rba;".repeat(5) + "rab;".repeat(4)).now(2), 1);
        due("4 of 9 for b", Check.told("n2;" + "rba;".repeat(4) + "rab;".repeat(5)).now(2), 0);
        due("9 of 9 for b", Check.told("n2;" + "rba;".repeat(9)).now(2), 1);
        due("1 of 1 for b", Check.told("n2;rba;").now(2), 1);
    }

    /** "or as many, and its number is lower". */
    private static void beatsByAsManyIfLower() {
        due("0 of 0", Check.told("n2;").now(2), 0);
        due("1 of 2", Check.told("n2;rba;rab;").now(2), 0);
        due("4 of 8", Check.told("n2;" + "rba;rab;".repeat(4)).now(2), 0);
        MotionDesk desk = Check.told("n6;rfedcba;rabcdef;");
        due("as many for all: now(1)", desk.now(1), 1);
        due("as many for all: now(2)", desk.now(2), 0);
        due("as many for e, f: the lower one", Check.told("n6;rfedcba;rabcdef;g(fe);").now(4), 4);
    }

    /** "THE TOP: the smallest set of MOTIONS (not empty)". */
    private static void topIsNotEmpty() {
        for (int motions = 2; motions <= 6; motions++) {
            due("now(1), no members", Check.told("n" + motions + ";").now(1), 1);
        }
        due("now(1), the last motion", Check.told("n6;rfabcde;").now(1), 32);
        due("now(1) of two, b", Check.told("n2;rba;").now(1), 2);
    }

    /** A ring of all. */
    private static void topMayBeAll() {
        due("now(1), a ring of three", Check.told("rabc;rbca;rcab;").now(1), 7);
        due("now(1), a ring of four", Check.told("n4;rabcd;rbcda;rcdab;").now(1), 15);
        due("now(1), a ring of six", Check.told("n6;rabcdef;rcdefab;refabcd;").now(1), 63);
        due("now(2), a ring of six", Check.told("n6;rabcdef;rcdefab;refabcd;").now(2), MotionDesk.NONE);
    }

    /** "each of which BEATS all that are not of it": no smaller ring, none that is beaten. */
    private static void topIsTheSmallestSet() {
        due("a ring of three ahead of one", Check.told("n4;rabcd;rbcad;rcabd;").now(1), 7);
        due("one ahead of a ring of three", Check.told("n4;rdabc;rdbca;rdcab;").now(1), 8);
        due("a ring ahead of a ring", Check.told("n6;rabcdef;rbcaefd;rcabfde;").now(1), 7);
        due("a ring of the last three", Check.told("n6;rdefabc;refdbca;rfdecab;").now(1), 56);
        due("a ring of a, b, f", Check.told("n6;rafbcde;rfbacde;rbafcde;").now(1), 35);
    }

    /** "the branch of the last two being (p q)": two motions are all. */
    private static void theOrderOfTwoIsOneVote() {
        MotionDesk desk = Check.told("n2;");
        due("now(0) of two", desk.now(0), 3);
        due("node(1, 0) of two", desk.node(1, 0), 0);
        due("node(2, 0) of two", desk.node(2, 0), 1);
        desk.sets(1);
        due("node(1, 0) of two, turned", desk.node(1, 0), 1);
        due("node(2, 0) of two, turned", desk.node(2, 0), 0);
    }

    /** "(branch of p, r .. , branch of q, r ..)": 32 leaves, each a motion that wins all votes ahead. */
    private static void theOrderOfSixHas63Nodes() {
        MotionDesk desk = Check.told("n6;");
        int[] leaves = {
            0, 5, 4, 5, 3, 5, 4, 5, 2, 5, 4, 5, 3, 5, 4, 5, 1, 5, 4, 5, 3, 5, 4, 5, 2, 5, 4, 5, 3, 5, 4, 5};
        int seen = 0;
        for (int k = 0; k < 63; k++) {
            int motion = desk.node(k, 0);
            if (motion != MotionDesk.NONE && seen < leaves.length) {
                due("leaf " + seen + " at node " + k, motion, leaves[seen]);
                seen++;
            }
        }
        due("leaves", seen, 32);
        due("node(0, 2)", desk.node(0, 2), 32);
        due("node(63, 0)", desk.node(63, 0), MotionDesk.BAD);
    }

    private static int forFirst(String ranking, String branch) {
        return Check.told("n6;r" + ranking + ";g" + branch + ";").node(0, 6);
    }

    /** "by the first place at which they are not the same MOTION (the higher one is liked better". */
    private static void sincereByTheFirstPlaceThatDiffers() {
        due("the first place", forFirst("abcdef", "((af)(bc))"), 1);
        due("the first place, turned", forFirst("abcdef", "((bc)(af))"), 0);
        due("the second place", forFirst("abcdef", "((ac)(ab))"), 0);
        due("the last place", forFirst("abcdef", "((a(b(c(de))))(a(b(c(df)))))"), 1);
        due("the last place, turned", forFirst("abcdef", "((a(b(c(df))))(a(b(c(de)))))"), 0);
        due("as they stand in the text does not count", forFirst("abcdef", "((fa)(bc))"), 1);
        due("by the ranking, not by numbers", forFirst("fedcba", "((af)(ea))"), 1);
    }

    /** "a set that ends ahead of it is liked less". */
    private static void sincereASetThatEndsIsLikedLess() {
        due("the first ends", forFirst("abcdef", "(a(ab))"), 0);
        due("the second ends", forFirst("abcdef", "((ab)a)"), 1);
        due("the first ends, the other has the worst more", forFirst("abcdef", "((ab)(a(bf)))"), 0);
        due("the second ends, the other has a worse one", forFirst("abcdef", "((a(bf))(ab))"), 1);
        due("it is shorter, but differs ahead", forFirst("abcdef", "(a(b(c(d(ef)))))"), 1);
        due("it is shorter, and differs ahead", forFirst("fedcba", "(a(b(c(d(ef)))))"), 0);
    }

    /** "of like sets for the first". */
    private static void sincereOfLikeSetsTheFirst() {
        due("(aa)", forFirst("bacdef", "(aa)"), 1);
        due("((ab)(ba))", forFirst("bacdef", "((ab)(ba))"), 1);
        due("a motion twice", forFirst("bacdef", "((ab)(a(ba)))"), 1);
        due("nine of nine", Check.told("n2;" + "rba;".repeat(9) + "g(aa);").node(0, 6), 9);
    }

    /** "The branch for which more vote goes on (as many: the first), to a LEAF." */
    private static void sincereAsManyTheFirst() {
        due("1 of 2, (ba)", Check.told("n2;rab;rba;g(ba);").now(3), 1);
        due("1 of 2, (ab)", Check.told("n2;rab;rba;g(ab);").now(3), 0);
        due("4 of 8, (ba)", Check.told("n2;" + "rab;rba;".repeat(4) + "g(ba);").now(3), 1);
        due("4 of 9 for the first", Check.told("n2;" + "rab;rba;".repeat(4) + "rab;g(ba);").now(3), 0);
        due("5 of 9 for the first", Check.told("n2;" + "rab;rba;".repeat(4) + "rba;g(ba);").now(3), 1);
        due("0 of 0, (ba)", Check.told("n2;g(ba);").now(3), 1);
    }

    /** "of a VOTE what comes of that branch whose outcome BEATS the other's": FORESEEN all the way down. */
    private static void foreseenByOutcomesOfBothBranches() {
        due("of (ca) comes a, not c as SINCERE", Check.told("rabc;rbca;g((ca)b);").now(4), 0);
        due("of (ba) comes a, not b as SINCERE", Check.told("rbac;racb;g(c(ba));").now(4), 0);
        MotionDesk ring = Check.told("n4;rabcd;rbcad;rcabd;g((ab)((ca)(bd)));");
        due("(ab)", ring.node(1, 5), 0);
        due("(ca)", ring.node(5, 5), 2);
        due("(bd)", ring.node(8, 5), 1);
        due("((ca)(bd)): b beats c", ring.node(4, 5), 1);
        due("a beats b", ring.node(0, 5), 0);
    }

    /** "what comes of that branch whose outcome BEATS the other's (of like ones the first)". */
    private static void foreseenOfLikeOnesTheFirst() {
        due("(bb)", Check.told("rabc;g(bb);").now(4), 1);
        due("((ab)(ac)), a twice", Check.told("rabc;g((ab)(ac));").now(4), 0);
        due("as many: the lower one, not the first branch", Check.told("rabc;rbac;g(ba);").now(4), 0);
        due("as many: the lower one, no members", Check.told("g(ca);").now(4), 0);
        due("the second branch beats", Check.told("rbac;g(ab);").now(4), 1);
    }

    /** "no MEMBERS": as many (0) for each. */
    private static void noMembers() {
        MotionDesk desk = Check.told("g((cb)a);");
        due("now(3): the first", desk.now(3), 2);
        due("now(4): the lower", desk.now(4), 0);
        due("node(1, 4)", desk.node(1, 4), 2);
        due("node(1, 5)", desk.node(1, 5), 1);
        due("node(0, 6)", desk.node(0, 6), 0);
        due("now(1)", desk.now(1), 1);
        due("now(2)", desk.now(2), 0);
    }

    // ---- promises 5 to 8

    /** Promise 5: "The MOTION at a place (0 the best) of a MEMBER's RANKING. BAD." */
    private static void ranking() {
        for (int motions = 2; motions <= 6; motions++) {
            String letters = new StringBuilder("abcdef".substring(0, motions)).reverse().toString();
            MotionDesk desk = Check.told("n" + motions + ";" + ("r" + letters + ";").repeat(9));
            CHECK.range("ranking(.., 0)", 0, 8, member -> desk.ranking(member, 0));
            CHECK.range("ranking(0, ..)", 0, motions - 1, place -> desk.ranking(0, place));
            due("the best", desk.ranking(8, 0), motions - 1);
            due("the worst", desk.ranking(8, motions - 1), 0);
        }
        MotionDesk one = Check.told("rabc;");
        CHECK.range("ranking(.., 2) of one", 0, 0, member -> one.ranking(member, 2));
        due("ranking(1, 3)", one.ranking(1, 3), MotionDesk.BAD);
    }

    /** "there is no such thing": no member. */
    private static void rankingOfNone() {
        for (int place = -1; place <= 3; place++) {
            due("ranking(0, " + place + ")", new MotionDesk().ranking(0, place), MotionDesk.BAD);
        }
        MotionDesk gone = Check.told("rabc;rabc;");
        Check.tell(gone, "rabc;");
        due("ranking(1, 0) of one that is no more told", gone.ranking(1, 0), MotionDesk.BAD);
    }

    /** Promise 6: "BAD." for a node, for what. */
    private static void node() {
        String[] texts = {"ga;", "n2;", RING, "n4;", "n5;", "n6;"};
        int[] nodes = {1, 3, 5, 15, 31, 63};
        for (int i = 0; i < texts.length; i++) {
            MotionDesk desk = Check.told(texts[i]);
            CHECK.range("node(.., 3) of " + texts[i], 0, nodes[i] - 1, k -> desk.node(k, 3));
            CHECK.range("node(0, ..) of " + texts[i], 0, 6, what -> desk.node(0, what));
        }
        MotionDesk fewer = Check.told("n6;");
        Check.tell(fewer, "ga;");
        due("node(1, 0) of nodes that are no more", fewer.node(1, 0), MotionDesk.BAD);
        due("node(5, 7)", fewer.node(5, 7), MotionDesk.BAD);
    }

    /** "0 the MOTION (a LEAF ..", "1 the first branch (NONE)", "2 the second (NONE)", "(0: a LEAF)". */
    private static void nodeOfALeaf() {
        MotionDesk desk = Check.told("n6;rfedcba;g(af);");
        int[] a = {0, MotionDesk.NONE, MotionDesk.NONE, 1, 0, 0, 0};
        int[] f = {5, MotionDesk.NONE, MotionDesk.NONE, 32, 5, 5, 0};
        for (int what = 0; what < 7; what++) {
            due("node(1, " + what + "), a", desk.node(1, what), a[what]);
            due("node(2, " + what + "), f", desk.node(2, what), f[what]);
        }
    }

    /** "0 the MOTION (a LEAF; NONE)", "3 MOTIONS of it (bits)". */
    private static void nodeOfAVote() {
        MotionDesk desk = Check.told("n6;rfedcba;g((aa)(a(b(c(d(ef))))));");
        due("node(0, 0)", desk.node(0, 0), MotionDesk.NONE);
        due("node(0, 1)", desk.node(0, 1), 1);
        due("node(0, 2)", desk.node(0, 2), 4);
        due("node(0, 3), all", desk.node(0, 3), 63);
        due("node(1, 3), one twice", desk.node(1, 3), 1);
        due("node(12, 0)", desk.node(12, 0), MotionDesk.NONE);
        due("node(12, 3), the last vote", desk.node(12, 3), 48);
        due("node(12, 1)", desk.node(12, 1), 13);
        due("node(12, 2)", desk.node(12, 2), 14);
    }

    /** "6 how many vote for the first branch SINCERE": none, all. */
    private static void nodeHowManyVoteForTheFirst() {
        due("none of nine", Check.told("n2;" + "rba;".repeat(9)).node(0, 6), 0);
        due("nine of nine", Check.told("n2;" + "rab;".repeat(9)).node(0, 6), 9);
        due("one of nine", Check.told("n2;" + "rba;".repeat(8) + "rab;").node(0, 6), 1);
        due("of no members", Check.told("n2;").node(0, 6), 0);
    }

    /** Promise 7: "How many MEMBERS rank a MOTION higher than another one. BAD ..". */
    private static void votes() {
        for (int motions = 2; motions <= 6; motions++) {
            MotionDesk desk = Check.told("n" + motions + ";");
            int last = motions - 1;
            CHECK.range("votes(.., 0)", 1, last, a -> desk.votes(a, 0));
            CHECK.range("votes(0, ..)", 1, last, b -> desk.votes(0, b));
            CHECK.range("votes(.., last)", 0, last - 1, a -> desk.votes(a, last));
            CHECK.range("votes(last, ..)", 0, last - 1, b -> desk.votes(last, b));
        }
    }

    /** "(the same, too)". */
    private static void votesOfTheSame() {
        MotionDesk desk = Check.told("n6;rabcdef;");
        for (int motion = -1; motion <= 6; motion++) {
            due("votes of the same", desk.votes(motion, motion), MotionDesk.BAD);
        }
    }

    private static void votesOfNoneAndOfNine() {
        MotionDesk none = new MotionDesk();
        due("votes(0, 2), no members", none.votes(0, 2), 0);
        due("votes(2, 0), no members", none.votes(2, 0), 0);
        MotionDesk nine = Check.told("n6;" + "rfedcba;".repeat(9));
        due("votes(5, 0) of nine", nine.votes(5, 0), 9);
        due("votes(0, 5) of nine", nine.votes(0, 5), 0);
        due("votes(1, 0) of nine", nine.votes(1, 0), 9);
    }

    /** Promise 8: "BAD." */
    private static void now() {
        CHECK.range("now, new", 0, 5, what -> new MotionDesk().now(what));
        CHECK.range("now, full", 0, 5, what -> Desks.FULL.make().now(what));
    }

    /** "0 NODES". */
    private static void nowHowManyNodes() {
        due("now(0), the fewest", Check.told("ga;").now(0), 1);
        due("now(0), two motions", Check.told("n2;").now(0), 3);
        due("now(0), the most told", Check.told("g" + "(a".repeat(15) + "a" + ")".repeat(15) + ";").now(0), 31);
        due("now(0), the most of all", Check.told("n6;").now(0), 63);
    }

    /** "2 the MOTION that BEATS all others (NONE)": whatever the agenda has. */
    private static void nowTheMotionThatBeatsAll() {
        due("now(2), a ring", Check.told(RING).now(2), MotionDesk.NONE);
        due("now(2), not of the agenda", Check.told("rcab;g(ab);").now(2), 2);
        due("now(2), the first", Check.told("n6;rabcdef;").now(2), 0);
        due("now(2), the last", Check.told("n6;rfabcde;").now(2), 5);
        due("now(2), each is beaten by one at least", Check.told("n4;rabcd;rbcad;rcabd;rabcd;rdcba;").now(2), MotionDesk.NONE);
        due("now(2), a ring of the best three of six", Check.told("n6;rabcdef;rbcadef;rcabdef;").now(2), MotionDesk.NONE);
    }

    /** "5 how many may be UNDONE": none, ten at most. */
    private static void nowHowManyMayBeUndone() {
        MotionDesk desk = Check.told("n2;rab;");
        for (int many = 0; many <= 12; many++) {
            due("now(5)", desk.now(5), Math.min(many, 10));
            desk.ranks(0, 0);
        }
        for (int left = 9; left >= 0; left--) {
            desk.undo();
            due("now(5) behind undo()", desk.now(5), left);
        }
        desk.undo();
        due("now(5) behind a refused undo()", desk.now(5), 0);
    }
}
