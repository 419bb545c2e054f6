/** Promises 1 to 8: a new object, the text, what the desk shows. */
public final class PromisesDesk {
    private static final Check CHECK = new Check("PromisesDesk");
    private static final String RING = "rabc;rbca;rcab;g((ab)c);";

    public static void main(String[] args) {
        newObject();
        type();
        clear();
        deskTexts();
        deskFaults();
        deskFaultsOfNodes();
        deskTellsAllAnew();
        deskRefusedChangesNothing();
        ranking();
        nodeOfRing();
        nodeByLikedSets();
        votes();
        now();
        CHECK.end();
    }

    private static void due(String call, long got, long want) {
        CHECK.due(call, got, want);
    }

    private static void newObject() {
        MotionDesk desk = new MotionDesk();
        int[] counts = {3, 0, 6, 0, 0};
        for (int what = 0; what < counts.length; what++) {
            due("new: count(" + what + ")", desk.count(what), counts[what]);
        }
        int[] leaves = {MotionDesk.NONE, MotionDesk.NONE, 0, 2, MotionDesk.NONE, 1, 2};
        for (int k = 0; k < leaves.length; k++) {
            due("new: node(" + k + ", 0)", desk.node(k, 0), leaves[k]);
            due("new: node(" + k + ", 6)", desk.node(k, 6), 0);
        }
        due("new: now(0)", desk.now(0), 7);
        due("new: now(5)", desk.now(5), 0);
        due("new: votes(0, 1)", desk.votes(0, 1), 0);
        due("new: ranking(0, 0)", desk.ranking(0, 0), MotionDesk.BAD);
        due("new: undo()", desk.undo(), MotionDesk.STATE);
        due("new: back(0)", desk.back(0), MotionDesk.STATE);
        due("new: back(1)", desk.back(1), MotionDesk.STATE);
        due("new: rankings(0)", desk.rankings(0), 6);
        due("BAD", MotionDesk.BAD, -1);
        due("STATE", MotionDesk.STATE, -2);
        due("FULL", MotionDesk.FULL, -3);
        due("NONE", MotionDesk.NONE, -9);
    }

    private static void type() {
        MotionDesk desk = new MotionDesk();
        due("type(0)", desk.type(0), 1);
        due("type(255)", desk.type(255), 2);
        for (int wrong : new int[] {-1, 256, Integer.MIN_VALUE, Integer.MAX_VALUE}) {
            due("type(" + wrong + ")", desk.type(wrong), MotionDesk.BAD);
        }
        due("count(4) behind refused letters", desk.count(4), 2);
        for (int many = 3; many <= 120; many++) {
            due("type, " + many, desk.type('a'), many);
        }
        due("type, the 121st", desk.type('a'), MotionDesk.FULL);
        due("type(256), full", desk.type(256), MotionDesk.BAD);
        due("count(4), full", desk.count(4), 120);
    }

    private static void clear() {
        MotionDesk desk = new MotionDesk();
        due("clear(), empty", desk.clear(), 0);
        desk.type('x');
        desk.type('y');
        due("clear()", desk.clear(), 2);
        due("clear() again", desk.clear(), 0);
        due("desk() of what was cleared", desk.desk(), 0);
        for (int i = 0; i < 120; i++) {
            desk.type(' ');
        }
        due("clear(), full", desk.clear(), 120);
        due("type behind clear()", desk.type('r'), 1);
        MotionDesk typed = new MotionDesk();
        Check.tell(typed, "n22;");
        typed.clear();
        due("desk(): letters that were cleared are gone", Check.tell(typed, "n2"), -12);
    }

    private static void told(String text, int items, int motions, int members, int nodes) {
        MotionDesk desk = new MotionDesk();
        due("desk() of " + text, Check.tell(desk, text), items);
        due("count(0) of " + text, desk.count(0), motions);
        due("count(1) of " + text, desk.count(1), members);
        due("now(0) of " + text, desk.now(0), nodes);
        due("count(4) of " + text, desk.count(4), 0);
    }

    private static void deskTexts() {
        told("", 0, 3, 0, 7);
        told("    ", 0, 3, 0, 7);
        told(" ".repeat(120), 0, 3, 0, 7);
        told(" ".repeat(117) + "n4;", 1, 4, 0, 15);
        told("n2;", 1, 2, 0, 3);
        told("n3;", 1, 3, 0, 7);
        told("n4;", 1, 4, 0, 15);
        told("n5;", 1, 5, 0, 31);
        told("n6;", 1, 6, 0, 63);
        told("  n  2  ;  r b  a ; g ( a b ) ;  ", 3, 2, 1, 3);
        told("g((ab)c);rabc;", 2, 3, 1, 5);
        told("rabc;ga;rcba;", 3, 3, 2, 1);
        told("n6;rfedcba;g(f(fa));", 3, 6, 1, 5);
        told("rabc;rabc;rabc;rabc;rabc;rabc;rabc;rabc;rabc;g(ab);", 10, 3, 9, 3);
    }

    private static void fault(String text, int place) {
        MotionDesk desk = new MotionDesk();
        due("desk() of " + text, Check.tell(desk, text), -10 - place);
        due("count(4) behind a fault", desk.count(4), text.length());
    }

    private static void deskFaults() {
        String[] texts = {
            "n", "n3", "n3  ", "r", "rab", "rabc", "rabc ", "g", "g(", "g(a", "g(ab", "g(ab)", "rabc;r"};
        for (String text : texts) {
            fault(text, text.length());
        }
        fault("n" + "9".repeat(119), 1);
        fault("n2" + " ".repeat(118), 120);
        fault("n0;", 1);
        fault("n1;", 1);
        fault("n7;", 1);
        fault("n03;", 1);
        fault("n00;", 1);
        fault("n10;", 1);
        fault("n99;", 1);
        fault("n100;", 1);
        fault("n  4294967299;", 3);
        fault("n3 3;", 3);
        fault("na;", 1);
        fault("n;", 1);
        fault("n3;n3;", 3);
        fault("rabc;n3;", 5);
        fault("ga;n3;", 3);
        fault("3;", 0);
        fault(";", 0);
        fault("n3;;", 3);
        fault("a", 0);
        fault("(ab);", 0);
        fault(")", 0);
        fault("y", 0);
        fault("A", 0);
        fault("rAbc;", 1);
        fault("\t", 0);
        fault("rabc;\n", 5);
        fault("" + (char) 0, 0);
        fault("" + (char) 255, 0);
        fault("rabd;", 3);
        fault("rabg;", 3);
        fault("raba;", 3);
        fault("rabcd;", 4);
        fault("rab;", 3);
        fault("rab;y", 3);
        fault("rabd;n100", 3);
        fault("r3;", 1);
        fault("n2;rabc;", 6);
        fault("n2;rac;", 5);
        fault("n6;gg;", 4);
        fault("gd;", 1);
        fault("gab;", 2);
        fault("g;", 1);
        fault("g();", 2);
        fault("g(a);", 3);
        fault("g(ab;", 4);
        fault("g(abc);", 4);
        fault("g(ab));", 5);
        fault("g)", 1);
        fault("g1;", 1);
        fault("ga;gb;", 3);
        fault("ga;rabc;g", 8);
        fault("rabc;rabc;rabc;rabc;rabc;rabc;rabc;rabc;rabc;r", 45);
        fault("rabc;rabc;rabc;rabc;rabc;rabc;rabc;rabc;rabc;ga;rabc;", 48);
    }

    private static void deskFaultsOfNodes() {
        told("g" + "(a".repeat(15) + "a" + ")".repeat(15) + ";", 1, 3, 0, 31);
        told("g" + "(".repeat(15) + "a" + "a)".repeat(15) + ";", 1, 3, 0, 31);
        fault("g" + "(a".repeat(16) + "a" + ")".repeat(16) + ";", 32);
        fault("g" + "(".repeat(40), 32);
        fault("g " + "(".repeat(31) + "(", 33);
        fault("g" + "(".repeat(31), 32);
    }

    private static void deskTellsAllAnew() {
        MotionDesk desk = Check.told("n6;rabcdef;g(ab);");
        desk.ranks(0, 0);
        desk.sees(0, 0);
        desk.keep(0);
        desk.keep(1);
        due("desk() of rcba;", Check.tell(desk, "rcba;"), 1);
        due("count(0): 3 again", desk.count(0), 3);
        due("count(1)", desk.count(1), 1);
        due("ranking(0, 0)", desk.ranking(0, 0), 2);
        due("now(0): that of the order 0, 1, 2", desk.now(0), 7);
        due("now(5)", desk.now(5), 0);
        due("undo()", desk.undo(), MotionDesk.STATE);
        due("count(3)", desk.count(3), 0);
        due("back(0)", desk.back(0), MotionDesk.STATE);
        due("back(1)", desk.back(1), MotionDesk.STATE);
        due("desk() of nothing", desk.desk(), 0);
        due("count(1)", desk.count(1), 0);
    }

    private static void deskRefusedChangesNothing() {
        MotionDesk desk = Check.told("n4;rdcba;g(ab);");
        desk.ranks(0, 0);
        desk.sees(0, 1);
        desk.keep(1);
        due("desk() of n2;rba;gx", Check.tell(desk, "n2;rba;gx"), -18);
        due("count(0)", desk.count(0), 4);
        due("count(1)", desk.count(1), 1);
        due("ranking(0, 0)", desk.ranking(0, 0), 2);
        due("now(0)", desk.now(0), 3);
        due("now(5)", desk.now(5), 1);
        due("count(3)", desk.count(3), 1);
        due("back(1)", desk.back(1), 3);
        due("count(4)", desk.count(4), 9);
        due("desk() once more", desk.desk(), -18);
    }

    private static void ranking() {
        MotionDesk desk = Check.told("n4;rdbca;rabcd;");
        int[] first = {3, 1, 2, 0};
        for (int place = 0; place < 4; place++) {
            due("ranking(0, " + place + ")", desk.ranking(0, place), first[place]);
            due("ranking(1, " + place + ")", desk.ranking(1, place), place);
        }
        int[][] wrong = {{-1, 0}, {2, 0}, {0, -1}, {0, 4}, {Integer.MAX_VALUE, 0}, {0, Integer.MIN_VALUE}};
        for (int[] pair : wrong) {
            due("ranking, wrong", desk.ranking(pair[0], pair[1]), MotionDesk.BAD);
        }
    }

    private static void nodeOfRing() {
        MotionDesk desk = Check.told(RING);
        int[][] rows = {
            {-9, 1, 4, 7, 0, 2, 2},
            {-9, 2, 3, 3, 0, 0, 2},
            {0, -9, -9, 1, 0, 0, 0},
            {1, -9, -9, 2, 1, 1, 0},
            {2, -9, -9, 4, 2, 2, 0}};
        for (int k = 0; k < rows.length; k++) {
            for (int what = 0; what < 7; what++) {
                due("node(" + k + ", " + what + ")", desk.node(k, what), rows[k][what]);
            }
        }
        due("node(5, 0)", desk.node(5, 0), MotionDesk.BAD);
        due("node(-1, 0)", desk.node(-1, 0), MotionDesk.BAD);
        due("node(0, 7)", desk.node(0, 7), MotionDesk.BAD);
        due("node(0, -1)", desk.node(0, -1), MotionDesk.BAD);
        due("node(max, 0)", desk.node(Integer.MAX_VALUE, 0), MotionDesk.BAD);
    }

    private static void nodeByLikedSets() {
        MotionDesk like = Check.told("rabc;rbca;g((ab)(ba));");
        due("like sets: all for the first", like.node(0, 6), 2);
        due("as many: the first (a)", like.node(1, 4), 0);
        due("as many: the first (b)", like.node(4, 4), 1);
        due("as many: the lower number beats", like.node(4, 5), 0);
        due("first branch of 4", like.node(4, 1), 5);
        due("second branch of 4", like.node(4, 2), 6);
        due("a set that ends is liked less", Check.told("rabc;g(a(ab));").node(0, 6), 0);
        due("a set that ends is liked less, turned", Check.told("rabc;g((ab)a);").node(0, 6), 1);
        due("the best one decides", Check.told("rabc;g((ac)b);").node(0, 6), 1);
        MotionDesk second = Check.told("rcba;g((ac)(bc));");
        due("the next best decides", second.node(0, 6), 0);
        due("what comes of it", second.node(0, 4), 2);
        due("a motion twice is once in the set", Check.told("g((ab)(a(ab)));").node(0, 3), 3);
    }

    private static void votes() {
        MotionDesk desk = Check.told("n4;rabcd;rbcad;rdcab;");
        int[][] due = {{-1, 2, 1, 2}, {1, -1, 2, 2}, {2, 1, -1, 2}, {1, 1, 1, -1}};
        for (int a = 0; a < 4; a++) {
            for (int b = 0; b < 4; b++) {
                due("votes(" + a + ", " + b + ")", desk.votes(a, b), due[a][b]);
            }
        }
        due("votes(-1, 0)", desk.votes(-1, 0), MotionDesk.BAD);
        due("votes(0, 4)", desk.votes(0, 4), MotionDesk.BAD);
        due("votes(4, 0)", desk.votes(4, 0), MotionDesk.BAD);
        due("votes(0, -1)", desk.votes(0, -1), MotionDesk.BAD);
    }

    private static void tops(String text, int top, int beatsAll) {
        MotionDesk desk = Check.told(text);
        due("now(1) of " + text, desk.now(1), top);
        due("now(2) of " + text, desk.now(2), beatsAll);
    }

    private static void now() {
        tops("", 1, 0);
        tops("rabc;rcba;", 1, 0);
        tops(RING, 7, MotionDesk.NONE);
        tops("n4;rabcd;rbcad;rcabd;", 7, MotionDesk.NONE);
        tops("n4;rdabc;rdbca;rdcab;", 8, 3);
        tops("n4;rabcd;rbcda;rcdab;", 15, MotionDesk.NONE);
        tops("n6;rafbcde;rfbacde;rbafcde;", 2 | 1 | 32, MotionDesk.NONE);
        tops("rabc;rabc;rcba;gc;", 1, 0);
        MotionDesk second = Check.told("rcab;rcba;rabc;g((ab)c);");
        due("now(3), the second branch", second.now(3), 2);
        due("now(4), the second branch", second.now(4), 2);
        MotionDesk six = Check.told("n6;rfabcde;rfbcdea;rabcdef;");
        due("now(3) of 63 nodes", six.now(3), 5);
        due("now(4) of 63 nodes", six.now(4), 5);
        due("node(62, 5) of 63 nodes", six.node(62, 5), 5);
        MotionDesk desk = Check.told(RING);
        due("now(0)", desk.now(0), 5);
        due("now(3)", desk.now(3), 0);
        due("now(4)", desk.now(4), 2);
        due("now(5)", desk.now(5), 0);
        desk.sets(0);
        due("now(5) behind sets", desk.now(5), 1);
        due("now(6)", desk.now(6), MotionDesk.BAD);
        due("now(-1)", desk.now(-1), MotionDesk.BAD);
    }
}
