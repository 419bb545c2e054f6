import java.util.function.ToIntFunction;

/** The edges of promises 13 to 17 (orders, members, odds): a method for each sentence. */
public final class EdgesOrders {
    private static final Check CHECK = new Check("EdgesOrders");
    private static final String RING = "rabc;rbca;rcab;g((ab)c);";
    private static final int NONE = MotionDesk.NONE;
    private static final int[] ORDERS = {2, 6, 24, 120, 720};

    public static void main(String[] args) {
        order();
        orderTheFirstAndTheLast();
        orderByTheFirstMotionThenTheSecond();
        reach();
        reachNone();
        reachAll();
        reachOfAllOrdersNotOfTheAgenda();
        better();
        betterOfNoMember();
        betterNone();
        betterTheBestOfSeveral();
        betterItsOwnCounts();
        betterByItsOwnRanking();
        won();
        wonNoneMustBe();
        wonAllMustBe();
        wonNone();
        wonTheLeastNumber();
        wonAllElseAsItIs();
        odds();
        oddsAllAreThere();
        oddsAllAreAway();
        oddsOfNoMembers();
        oddsInLeastTerms();
        oddsOfNine();
        nothingIsChanged();
        CHECK.end();
    }

    private static void due(String call, long got, long want) {
        CHECK.due(call, got, want);
    }

    // ---- promise 13

    /** "BAD." for an order, for a place. */
    private static void order() {
        for (int motions = 2; motions <= 6; motions++) {
            MotionDesk desk = Check.told("n" + motions + ";");
            int last = ORDERS[motions - 2] - 1;
            CHECK.range("order(.., 0), n" + motions, 0, last, k -> desk.order(k, 0));
            CHECK.range("order(0, ..), n" + motions, 0, motions - 1, place -> desk.order(0, place));
            CHECK.range("order(last, ..), n" + motions, 0, motions - 1, place -> desk.order(last, place));
        }
    }

    /** "the k-th of all (0 on ..": the first is 0, 1, .., the last is backwards. */
    private static void orderTheFirstAndTheLast() {
        for (int motions = 2; motions <= 6; motions++) {
            MotionDesk desk = Check.told("n" + motions + ";");
            for (int place = 0; place < motions; place++) {
                due("the first order", desk.order(0, place), place);
                due("the last order", desk.order(ORDERS[motions - 2] - 1, place), motions - 1 - place);
            }
        }
    }

    /** "(0 on; by the first MOTION, then the second ..)": each is above the one ahead. */
    private static void orderByTheFirstMotionThenTheSecond() {
        for (int motions = 2; motions <= 5; motions++) {
            int ahead = -1;
            for (int k = 0; k < ORDERS[motions - 2]; k++) {
                MotionDesk desk = Check.told("n" + motions + ";");
                int number = 0;
                int motionsOfIt = 0;
                for (int place = 0; place < motions; place++) {
                    number = number * 10 + desk.order(k, place);
                    motionsOfIt |= 1 << desk.order(k, place);
                }
                due("order " + k + " is above the one ahead (1)", number > ahead ? 1 : 0, 1);
                due("order " + k + " has each motion", motionsOfIt, (1 << motions) - 1);
                ahead = number;
            }
        }
        MotionDesk six = Check.told("n6;");
        due("order(119, 0): the last that begins with 0", six.order(119, 0), 0);
        due("order(119, 1)", six.order(119, 1), 5);
        due("order(120, 0): the first that begins with 1", six.order(120, 0), 1);
        due("order(120, 1)", six.order(120, 1), 0);
        due("order(599, 0)", six.order(599, 0), 4);
        due("order(600, 0)", six.order(600, 0), 5);
    }

    // ---- promise 14

    /** "BAD." for a motion, a way, what. */
    private static void reach() {
        for (int motions = 2; motions <= 6; motions++) {
            MotionDesk desk = Check.told("n" + motions + ";");
            CHECK.range("reach(.., 0, 0)", 0, motions - 1, motion -> desk.reach(motion, 0, 0));
            CHECK.range("reach(0, .., 0)", 0, 1, way -> desk.reach(0, way, 0));
            CHECK.range("reach(0, 0, ..)", 0, 1, what -> desk.reach(0, 0, what));
        }
    }

    private static void dueReach(MotionDesk desk, int motion, int way, int many, int first) {
        due("reach(" + motion + ", " + way + ", 0)", desk.reach(motion, way, 0), many);
        due("reach(" + motion + ", " + way + ", 1)", desk.reach(motion, way, 1), first);
    }

    /** "the first (1; NONE)": no order comes to it. */
    private static void reachNone() {
        for (int way = 0; way < 2; way++) {
            dueReach(Check.told("n2;rba;"), 0, way, 0, NONE);
            dueReach(Check.told("rabc;"), 2, way, 0, NONE);
            dueReach(Check.told("n6;rabcdef;"), 5, way, 0, NONE);
        }
    }

    /** All orders come to it. */
    private static void reachAll() {
        for (int way = 0; way < 2; way++) {
            dueReach(Check.told("n2;rba;"), 1, way, 2, 0);
            dueReach(Check.told("rcab;"), 2, way, 6, 0);
            dueReach(Check.told("n6;rfabcde;"), 5, way, 720, 0);
        }
        MotionDesk none = new MotionDesk();
        dueReach(none, 0, 1, 6, 0);
        dueReach(none, 2, 1, 0, NONE);
        dueReach(none, 0, 0, 2, 0);
        dueReach(none, 2, 0, 2, 4);
    }

    /** "of all orders' agendas": THE AGENDA itself does not count. */
    private static void reachOfAllOrdersNotOfTheAgenda() {
        for (String agenda : new String[] {"", "gb;", "g(bc);", "g((ab)c);"}) {
            MotionDesk desk = Check.told("rabc;rbca;rcab;" + agenda);
            dueReach(desk, 0, 0, 2, 3);
            dueReach(desk, 2, 0, 2, 0);
            dueReach(desk, 1, 1, 2, 0);
            dueReach(desk, 2, 1, 2, 3);
        }
    }

    // ---- promise 15

    /** "BAD." for a member, a way, what. */
    private static void better() {
        MotionDesk one = Check.told("n2;rab;");
        MotionDesk nine = Check.told("rabc;".repeat(9));
        CHECK.range("better(.., 0, 0) of one", 0, 0, member -> one.better(member, 0, 0));
        CHECK.range("better(.., 0, 0) of nine", 0, 8, member -> nine.better(member, 0, 0));
        CHECK.range("better(8, .., 0)", 0, 1, way -> nine.better(8, way, 0));
        CHECK.range("better(8, 0, ..)", 0, 2, what -> nine.better(8, 0, what));
    }

    /** "there is no such thing". */
    private static void betterOfNoMember() {
        for (int what = 0; what < 3; what++) {
            due("better, no members", new MotionDesk().better(0, 0, what), MotionDesk.BAD);
            due("better, no members", new MotionDesk().better(0, 1, what), MotionDesk.BAD);
        }
    }

    private static void dueBetter(MotionDesk desk, int member, int way, int many, int best, int first) {
        due("better(" + member + ", " + way + ", 0)", desk.better(member, way, 0), many);
        due("better(" + member + ", " + way + ", 1)", desk.better(member, way, 1), best);
        due("better(" + member + ", " + way + ", 2)", desk.better(member, way, 2), first);
    }

    /** "how many": none, as the best is the OUTCOME; as nothing can be reached. */
    private static void betterNone() {
        for (int way = 0; way < 2; way++) {
            dueBetter(Check.told("rabc;"), 0, way, 0, 0, 0);
            dueBetter(Check.told("rcba;rabc;rabc;rabc;"), 0, way, 0, 0, 0);
            dueBetter(Check.told("rcba;gb;"), 0, way, 0, 1, 0);
            dueBetter(Check.told("n2;rba;rab;rab;"), 0, way, 0, 0, 0);
        }
    }

    /** "the best OUTCOME that it reaches by any": not the first that is better, and by which it reaches the best. */
    private static void betterTheBestOfSeveral() {
        dueBetter(Check.told("n4;racbd;rcdba;g(d(b(ac)));"), 1, 0, 12, 3, 18);
        dueBetter(Check.told("n4;rcdba;rdbca;g((db)(ac));"), 1, 1, 9, 3, 18);
    }

    /** "(its own counts for the latter two)": of two motions its own alone reaches the best. */
    private static void betterItsOwnCounts() {
        dueBetter(Check.told("n2;rba;"), 0, 0, 0, 1, 1);
        dueBetter(Check.told("n2;rba;"), 0, 1, 0, 1, 1);
        dueBetter(Check.told("n6;rfedcba;g(ef);"), 0, 0, 0, 5, 1);
        dueBetter(Check.told("n6;rfedcba;"), 0, 0, 0, 5, 600);
        dueBetter(Check.told("n6;rfedcba;"), 0, 1, 0, 5, 600);
        dueBetter(Check.told("rcba;g((bb)(cc));"), 0, 0, 0, 2, 1);
    }

    /** "one it ranks higher (by its own RANKING)". */
    private static void betterByItsOwnRanking() {
        MotionDesk ring = Check.told(RING);
        dueBetter(ring, 0, 1, 2, 1, 2);
        dueBetter(ring, 1, 0, 2, 2, 4);
        dueBetter(ring, 1, 1, 0, 2, 3);
        dueBetter(ring, 2, 1, 0, 2, 4);
        MotionDesk trap = Check.told("n2;rab;rab;g((bb)a);");
        dueBetter(trap, 0, 0, 0, 0, 0);
    }

    // ---- promise 16

    /** "BAD." for a motion, a way, what. */
    private static void won() {
        for (int motions = 2; motions <= 6; motions++) {
            MotionDesk desk = Check.told("n" + motions + ";");
            CHECK.range("won(.., 1, 0)", 0, motions - 1, motion -> desk.won(motion, 1, 0));
            CHECK.range("won(0, .., 0)", 0, 1, way -> desk.won(0, way, 0));
            CHECK.range("won(0, 0, ..)", 0, 1, what -> desk.won(0, 0, what));
        }
    }

    private static void dueWon(MotionDesk desk, int motion, int way, int few, int which) {
        due("won(" + motion + ", " + way + ", 0)", desk.won(motion, way, 0), few);
        due("won(" + motion + ", " + way + ", 1)", desk.won(motion, way, 1), which);
    }

    /** "how few": 0, of no one. */
    private static void wonNoneMustBe() {
        for (int way = 0; way < 2; way++) {
            dueWon(new MotionDesk(), 0, way, 0, 0);
            dueWon(Check.told("rabc;"), 0, way, 0, 0);
            dueWon(Check.told("n2;" + "rba;".repeat(9)), 1, way, 0, 0);
            dueWon(Check.told("rabc;gc;"), 2, way, 0, 0);
        }
    }

    /** All of them; just more than half of nine; half of eight, if as many do. */
    private static void wonAllMustBe() {
        for (int way = 0; way < 2; way++) {
            dueWon(Check.told("n2;rab;"), 1, way, 1, 1);
            dueWon(Check.told("n2;rab;rab;"), 1, way, 2, 3);
            dueWon(Check.told("n2;" + "rab;".repeat(9)), 1, way, 5, 31);
            dueWon(Check.told("n2;" + "rab;".repeat(8)), 1, way, 5, 31);
            dueWon(Check.told("n2;" + "rba;".repeat(8)), 0, way, 4, 15);
        }
    }

    /** "NONE.": for both. */
    private static void wonNone() {
        for (int way = 0; way < 2; way++) {
            dueWon(Check.told("rabc;rabc;g(ab);"), 2, way, NONE, NONE);
            dueWon(Check.told("n6;" + "rfabcde;".repeat(9) + "ga;"), 5, way, NONE, NONE);
        }
        dueWon(new MotionDesk(), 1, 0, NONE, NONE);
        dueWon(new MotionDesk(), 1, 1, NONE, NONE);
    }

    /** "which (bits; of like few the least number)". */
    private static void wonTheLeastNumber() {
        for (int way = 0; way < 2; way++) {
            dueWon(Check.told("n2;rba;rab;rab;"), 1, way, 1, 2);
            dueWon(Check.told("n2;rab;rba;rab;"), 1, way, 1, 1);
            dueWon(Check.told("n2;rba;rba;rba;rba;rab;rab;rab;rab;rab;"), 1, way, 1, 16);
            dueWon(Check.told("n2;rba;rba;rba;rab;rab;rab;rab;rab;rab;"), 1, way, 2, 24);
            dueWon(Check.told("n2;rab;rab;rab;rab;rab;rab;rba;rba;rba;"), 1, way, 2, 3);
        }
    }

    /**
     * "must put it first (all else of them as it is)": what they think of the others counts, too. Each of
     * these would come out otherwise if the others stood by their numbers, backwards, as another member
     * ranks them, or if the motion and the one that was the best changed places.
     */
    private static void wonAllElseAsItIs() {
        dueWon(Check.told("racb;rbca;rbac;rabc;g((bc)(ca));"), 2, 0, 2, 6);
        dueWon(Check.told("rabc;rcab;g((cb)(ab));"), 1, 0, 1, 2);
        dueWon(Check.told("rbca;racb;rbac;rbac;g((ac)(bc));"), 2, 0, 2, 5);
        dueWon(Check.told("n4;rabdc;rbdac;rbacd;radcb;g(((bd)(bd))((cd)(aa)));"), 3, 0, 2, 3);
        dueWon(Check.told("n4;rcbad;racbd;rbdac;g(((bd)(ca))((da)c));"), 3, 1, 2, 3);
        dueWon(Check.told("rabc;rcab;rcab;g((ac)b);"), 1, 1, 1, 2);
        dueWon(Check.told("rbca;racb;rbac;rbac;g((ab)c);"), 2, 1, 2, 5);
        dueWon(Check.told("n4;racdb;radcb;racbd;g(((ba)(ad))c);"), 1, 1, 2, 3);
        dueWon(Check.told("n4;rcbda;rcdab;g(((ad)(bc))b);"), 0, 1, 1, 1);
    }

    // ---- promise 17

    /** "ODDS by x (0 .. 10)"; "BAD." for x, a motion, a way, what. */
    private static void odds() {
        for (int motions = 2; motions <= 6; motions++) {
            MotionDesk desk = Check.told("n" + motions + ";");
            CHECK.range("odds(.., 0, 0, 0)", 0, 10, x -> desk.odds(x, 0, 0, 0));
            CHECK.range("odds(5, .., 0, 0)", 0, motions - 1, motion -> desk.odds(5, motion, 0, 0));
            CHECK.range("odds(5, 0, .., 0)", 0, 1, way -> desk.odds(5, 0, way, 0));
            CHECK.range("odds(5, 0, 0, ..)", 0, 1, what -> desk.odds(5, 0, 0, what));
        }
    }

    private static void dueOdds(MotionDesk desk, int x, int motion, int way, int upper, int lower) {
        due("odds(" + x + ", " + motion + ", " + way + ", 0)", desk.odds(x, motion, way, 0), upper);
        due("odds(" + x + ", " + motion + ", " + way + ", 1)", desk.odds(x, motion, way, 1), lower);
    }

    /** x = 0: no one is away, the OUTCOME is sure. */
    private static void oddsAllAreThere() {
        for (String text : new String[] {"rcba;", RING, "n6;" + "rfabcde;".repeat(9)}) {
            MotionDesk desk = Check.told(text);
            for (int motion = 0; motion < desk.count(0); motion++) {
                for (int way = 0; way < 2; way++) {
                    dueOdds(desk, 0, motion, way, desk.now(3 + way) == motion ? 1 : 0, 1);
                }
            }
        }
    }

    /** x = 10: all are away, as if there were no members. */
    private static void oddsAllAreAway() {
        MotionDesk desk = Check.told("n6;" + "rfedcba;".repeat(9) + "g(b(ac));");
        for (int motion = 0; motion < 6; motion++) {
            dueOdds(desk, 10, motion, 0, motion == 1 ? 1 : 0, 1);
            dueOdds(desk, 10, motion, 1, motion == 0 ? 1 : 0, 1);
        }
    }

    private static void oddsOfNoMembers() {
        MotionDesk desk = Check.told("g(ba);");
        for (int x = 0; x <= 10; x++) {
            dueOdds(desk, x, 1, 0, 1, 1);
            dueOdds(desk, x, 0, 1, 1, 1);
            dueOdds(desk, x, 2, 0, 0, 1);
            dueOdds(desk, x, 2, 1, 0, 1);
        }
    }

    /** "in least terms": nothing is 0 of 1, sure is 1 of 1. */
    private static void oddsInLeastTerms() {
        MotionDesk desk = Check.told("n2;rba;");
        int[] uppers = {0, 1, 1, 3, 2, 1, 3, 7, 4, 9, 1};
        int[] lowers = {1, 10, 5, 10, 5, 2, 5, 10, 5, 10, 1};
        for (int x = 0; x <= 10; x++) {
            for (int way = 0; way < 2; way++) {
                dueOdds(desk, x, 0, way, uppers[x], lowers[x]);
                dueOdds(desk, x, 1, way, lowers[x] - uppers[x], lowers[x]);
            }
        }
        dueOdds(Check.told("rabc;rabc;g(ab);"), 7, 2, 0, 0, 1);
        dueOdds(Check.told("rabc;rabc;g(aa);"), 7, 0, 1, 1, 1);
    }

    /** Nine members: 10 to the 9th is the greatest lower number. */
    private static void oddsOfNine() {
        MotionDesk desk = Check.told("n2;" + "rba;".repeat(9));
        for (int way = 0; way < 2; way++) {
            dueOdds(desk, 9, 0, way, 387420489, 1000000000);
            dueOdds(desk, 9, 1, way, 612579511, 1000000000);
            dueOdds(desk, 1, 0, way, 1, 1000000000);
            dueOdds(desk, 1, 1, way, 999999999, 1000000000);
            dueOdds(desk, 5, 1, way, 511, 512);
        }
    }

    // ---- all of them

    /** "(As things are NOW; nothing is changed.)" */
    private static void nothingIsChanged() {
        for (Desks desks : new Desks[] {Desks.SOME, Desks.FULL}) {
            for (int way = 0; way < 2; way++) {
                int by = way;
                unchanged(desks, "order", desk -> desk.order(5, by));
                unchanged(desks, "reach", desk -> desk.reach(2, by, 1));
                unchanged(desks, "better", desk -> desk.better(2, by, 2));
                unchanged(desks, "won", desk -> desk.won(2, by, 1));
                unchanged(desks, "odds", desk -> desk.odds(3, 2, by, 0));
                unchanged(desks, "rankings", desk -> desk.rankings(by));
                unchanged(desks, "watch", desk -> desk.watch());
                unchanged(desks, "node", desk -> desk.node(0, 4 + by));
                unchanged(desks, "now", desk -> desk.now(3 + by));
                unchanged(desks, "votes", desk -> desk.votes(by, 2));
                unchanged(desks, "ranking", desk -> desk.ranking(by, 2));
                unchanged(desks, "count", desk -> desk.count(3 + by));
            }
        }
    }

    private static void unchanged(Desks desks, String name, ToIntFunction<MotionDesk> call) {
        CHECK.changesNothing(desks, name, call.applyAsInt(desks.make()), call);
    }
}
