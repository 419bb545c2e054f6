/** The edges of the terms' first part and of promises 1 to 4: a method for each sentence. */
public final class EdgesText {
    private static final Check CHECK = new Check("EdgesText");
    private static final String NINE = "rabc;".repeat(9);
    /** An agenda of 31 nodes: each vote has a leaf first. */
    private static final String MOST_NODES = "g" + "(a".repeat(15) + "b" + ")".repeat(15) + ";";

    public static void main(String[] args) {
        motionsAreTwoToSix();
        motionsAreThreeAtFirst();
        motionsAreThreeIfNotTold();
        lettersAreAToF();
        membersAreNineAtMost();
        aLeafMayBeAll();
        aTextHas120LettersAtMost();
        aTextMayTellTheMostOfAll();
        blanksAre32();
        blanksStandBetweenTokens();
        itemsAreEndedBySemicolon();
        nIsTheFirstOfAll();
        aRankingHasEachMotionOnce();
        anAgendaIsToldOnceAtMost();
        elseTheAgendaIsThatOfTheFirstOrder();
        aBranchIsAMotionOrTwoBranches();
        nodesAre31AtMost();
        numbersBeyondWhatTheyMayBe();
        numbersAbove99OrWithAZeroAhead();
        everyLetterAtEveryPlace();
        theFirstFaultCounts();
        theTextEndsTooEarly();
        nodesAreNumberedByFirstLetters();
        aNewObject();
        type();
        clear();
        desk();
        deskReadsAnew();
        deskChangesNothingAtAFault();
        the512thCall();
        CHECK.end();
    }

    private static void due(String call, long got, long want) {
        CHECK.due(call, got, want);
    }

    private static void told(String text, int items) {
        due("desk() of " + text, Check.tell(new MotionDesk(), text), items);
    }

    private static void fault(String text, int place) {
        told(text, -10 - place);
    }

    // ---- terms, the first part

    /** "MOTIONS .. (2 .. 6 ..": "a NUMBER beyond what it may be". */
    private static void motionsAreTwoToSix() {
        fault("n1;", 1);
        for (int motions = 2; motions <= 6; motions++) {
            MotionDesk desk = new MotionDesk();
            due("desk() of n" + motions, Check.tell(desk, "n" + motions + ";"), 1);
            due("count(0) of n" + motions, desk.count(0), motions);
        }
        fault("n7;", 1);
    }

    /** "3 at first". */
    private static void motionsAreThreeAtFirst() {
        due("count(0) at first", new MotionDesk().count(0), 3);
        due("count(2) at first", new MotionDesk().count(2), 6);
    }

    /** "n N (.. if it is told)": else as at first, whatever was told before. */
    private static void motionsAreThreeIfNotTold() {
        MotionDesk desk = Check.told("n6;");
        due("desk() of no n", Check.tell(desk, "rabc;"), 1);
        due("count(0) of no n", desk.count(0), 3);
        Check.tell(desk, "n2;");
        due("desk() of nothing", desk.desk(), 0);
        due("count(0) of nothing", desk.count(0), 3);
    }

    /** "letters a .. f": "a MOTION that is none". */
    private static void lettersAreAToF() {
        for (int motions = 2; motions <= 6; motions++) {
            String n = "n" + motions + ";";
            char last = (char) ('a' + motions - 1);
            char none = (char) ('a' + motions);
            MotionDesk desk = new MotionDesk();
            due("desk() of the last letter", Check.tell(desk, n + "g" + last + ";"), 2);
            due("the last letter's motion", desk.node(0, 0), motions - 1);
            fault(n + "g" + none + ";", 4);
            fault(n + "r" + none, 4);
            fault(n + "g" + (char) ('a' - 1) + ";", 4);
            fault(n + "r" + (char) ('a' - 1), 4);
            told(n + "ga;", 2);
        }
    }

    /** "MEMBERS 0 .. (9 at most)": "a tenth r". */
    private static void membersAreNineAtMost() {
        for (int members = 0; members <= 9; members++) {
            MotionDesk desk = new MotionDesk();
            due("desk() of members", Check.tell(desk, "rcba;".repeat(members)), members);
            due("count(1)", desk.count(1), members);
            due("ranking of the last", desk.ranking(members - 1, 0), members == 0 ? MotionDesk.BAD : 2);
            due("ranking of one more", desk.ranking(members, 0), MotionDesk.BAD);
        }
        fault(NINE + "rabc;", 45);
        fault(NINE + "  r", 47);
        fault(NINE + "ga;rabc;", 48);
        fault("n2;" + "rab;".repeat(10), 39);
    }

    /** "a LEAF is a MOTION": a tree of no vote. */
    private static void aLeafMayBeAll() {
        MotionDesk desk = Check.told("gc;");
        int[] due = {2, MotionDesk.NONE, MotionDesk.NONE, 4, 2, 2, 0};
        due("now(0) of a leaf", desk.now(0), 1);
        for (int what = 0; what < due.length; what++) {
            due("node(0, " + what + ") of a leaf", desk.node(0, what), due[what]);
        }
        due("now(3) of a leaf", desk.now(3), 2);
        due("now(4) of a leaf", desk.now(4), 2);
    }

    /** "a text (120 letters at most)". */
    private static void aTextHas120LettersAtMost() {
        told(" ".repeat(115) + "rcba;", 1);
        told("rcba;" + " ".repeat(115), 1);
        MotionDesk desk = new MotionDesk();
        Check.type(desk, " ".repeat(116) + "rcba");
        due("type, the 121st letter", desk.type(';'), MotionDesk.FULL);
        due("desk() of 120 letters, ended too early", desk.desk(), -130);
        fault(" ".repeat(119) + "x", 119);
    }

    /** Nine members, 31 nodes and 120 letters at once. */
    private static void aTextMayTellTheMostOfAll() {
        String text = "n5;" + "redcba;".repeat(9) + MOST_NODES;
        MotionDesk desk = new MotionDesk();
        due("desk() of the most", Check.tell(desk, text + " ".repeat(120 - text.length())), 11);
        due("count(1) of the most", desk.count(1), 9);
        due("now(0) of the most", desk.now(0), 31);
        due("ranking(8, 0) of the most", desk.ranking(8, 0), 4);
        due("ranking(8, 4) of the most", desk.ranking(8, 4), 0);
        due("node(30, 0) of the most", desk.node(30, 0), 1);
    }

    /** "blanks (32)": no other letter is one. */
    private static void blanksAre32() {
        for (int letter = 0; letter < 256; letter++) {
            MotionDesk desk = new MotionDesk();
            Check.type(desk, "rabc");
            desk.type(letter);
            desk.type(';');
            int want = letter == 32 ? 1 : letter == ';' ? -15 : -14;
            due("desk() of rabc, the letter " + letter + ", ;", desk.desk(), want);
        }
    }

    /** "blanks (32) between TOKENS": as many as wanted, or none; none inside a NUMBER. */
    private static void blanksStandBetweenTokens() {
        String[] texts = {
            "n3;rcab;g(a(bc));", " n3;rcab;g(a(bc));", "n3;rcab;g(a(bc)); ", "n 3 ; r c a b ; g ( a ( b c ) ) ;",
            "  n  3  ;  r  c  a  b  ;  g  (  a  (  b  c  )  )  ;  "};
        for (String text : texts) {
            MotionDesk desk = new MotionDesk();
            due("desk() of " + text, Check.tell(desk, text), 3);
            due("ranking(0, 0) of " + text, desk.ranking(0, 0), 2);
            due("now(0) of " + text, desk.now(0), 5);
        }
        fault("n 2 0;", 4);
        fault("n 0 3;", 2);
    }

    /** "ITEMS, each ended by ;". */
    private static void itemsAreEndedBySemicolon() {
        fault("n3", 2);
        fault("rabc", 4);
        fault("ga", 2);
        fault("n3rabc;", 2);
        fault("rabcrabc;", 4);
        fault("rabcga;", 4);
        fault("garabc;", 2);
        fault(";", 0);
        fault("n3;;", 3);
        fault("rabc;;", 5);
        fault("ga;;", 3);
        told("n3;rabc;ga;", 3);
    }

    /** "n N (.. the first of all, if it is told)": "n behind another ITEM". */
    private static void nIsTheFirstOfAll() {
        told("n4;", 1);
        told("  n4;", 1);
        fault("n4;n4;", 3);
        fault("rabc;n3;", 5);
        fault("ga;n3;", 3);
        fault("n4;rabcd; n4;", 10);
    }

    /** "r and as many letters as MOTIONS (.. each MOTION once)": "or ranked by this one already". */
    private static void aRankingHasEachMotionOnce() {
        for (int motions = 2; motions <= 6; motions++) {
            String n = "n" + motions + ";r";
            String all = "abcdef".substring(0, motions);
            told(n + all + ";", 2);
            fault(n + ";", 4);
            fault(n + all.substring(1) + ";", 3 + motions);
            fault(n + all + "a;", 4 + motions);
            for (int again = 0; again < motions - 1; again++) {
                fault(n + all.substring(0, motions - 1) + all.charAt(again) + ";", 3 + motions);
            }
        }
        told("rabc;rabc;", 2);
    }

    /** "g and a branch (THE AGENDA; once at most ..": "g again". */
    private static void anAgendaIsToldOnceAtMost() {
        told("ga;", 1);
        fault("ga;ga;", 3);
        fault("g(ab);rabc; g", 12);
        fault("n2;ga;rab;rba;g", 14);
    }

    /** "else that of the order 0, 1, ..": for all that MOTIONS may be. */
    private static void elseTheAgendaIsThatOfTheFirstOrder() {
        int[] nodes = {3, 7, 15, 31, 63};
        for (int motions = 2; motions <= 6; motions++) {
            MotionDesk desk = Check.told("n" + motions + ";");
            MotionDesk set = Check.told("n" + motions + ";ga;");
            due("sets(0)", set.sets(0), nodes[motions - 2]);
            due("now(0), no g", desk.now(0), nodes[motions - 2]);
            for (int k = 0; k < nodes[motions - 2]; k++) {
                due("node(" + k + ", 0), no g, n" + motions, desk.node(k, 0), set.node(k, 0));
            }
            due("the first leaf, n" + motions, desk.node(motions - 1, 0), 0);
            due("the last leaf, n" + motions, desk.node(nodes[motions - 2] - 1, 0), motions - 1);
        }
        MotionDesk members = Check.told("rcba;");
        due("now(0), members and no g", members.now(0), 7);
    }

    /** "A branch: a MOTION, or ( branch branch )." */
    private static void aBranchIsAMotionOrTwoBranches() {
        told("ga;", 1);
        told("g(ab);", 1);
        told("g(aa);", 1);
        told("g((ab)(bc));", 1);
        fault("g;", 1);
        fault("g();", 2);
        fault("g(a);", 3);
        fault("g(abc);", 4);
        fault("gab;", 2);
        fault("g(ab)c;", 5);
        fault("g(ab)(ab);", 5);
        fault("g(a(b));", 5);
        fault("g((a)b);", 4);
        fault("g(ab));", 5);
        fault("g(ab;", 4);
        fault("g)", 1);
    }

    /** "the first letter of a 32nd NODE". */
    private static void nodesAre31AtMost() {
        String even = "b";
        for (int depth = 0; depth < 4; depth++) {
            even = "(" + even + even + ")";
        }
        String[] texts = {MOST_NODES, "g" + "(".repeat(15) + "b" + "b)".repeat(15) + ";", "g" + even + ";"};
        for (String text : texts) {
            MotionDesk desk = new MotionDesk();
            due("desk() of 31 nodes, " + text, Check.tell(desk, text), 1);
            due("now(0) of 31 nodes", desk.now(0), 31);
            due("the last of 31 nodes", desk.node(30, 0), 1);
            due("a 32nd of 31 nodes", desk.node(31, 0), MotionDesk.BAD);
        }
        fault("g" + "(a".repeat(15) + "(aa)" + ")".repeat(15) + ";", 1 + 30 + 1);
        fault("g" + "(".repeat(16) + "a" + "a)".repeat(16) + ";", 1 + 16 + 30 - 1);
        fault("g" + "(a".repeat(15) + "(" + "(", 1 + 30 + 1);
        fault("g" + "(".repeat(32), 32);
        fault("g" + "(".repeat(31) + "a", 32);
        fault("g" + "(".repeat(31) + "  a", 34);
        fault("g" + "(".repeat(31), 32);
        fault("g" + "(".repeat(31) + "  ", 34);
    }

    /** "a NUMBER beyond what it may be, too". */
    private static void numbersBeyondWhatTheyMayBe() {
        for (int number = 0; number <= 99; number++) {
            told("n " + number + ";", number >= 2 && number <= 6 ? 1 : -12);
        }
        fault("n;", 1);
        fault("nn", 1);
        fault("n 3 3;", 4);
        fault("n33;", 1);
    }

    /** "a NUMBER above 99 or with a 0 ahead of others, that TOKEN's". */
    private static void numbersAbove99OrWithAZeroAhead() {
        String[] wrong = {
            "100", "102", "299", "1000000", "4294967298", "18446744073709551618", "00", "02", "03", "06", "002", "0000003",
            "2" + "0".repeat(60)};
        for (String number : wrong) {
            fault("n" + number + ";", 1);
            fault("n   " + number + ";", 4);
            fault("n3" + ";" + number, 3);
            fault("r" + number, 1);
            fault(number, 0);
        }
        fault("n" + "9".repeat(119), 1);
    }

    /**
     * "TOKENS are letters a .. g, n, r, ( , ) , NUMBERS and ; .": every letter behind a beginning. Those
     * that may stand there go on to an early end (or to the end of an item).
     */
    private static void everyLetterAtEveryPlace() {
        boundary("", "nrg", 0);
        boundary("n3;", "rg", 1);
        boundary("rabc;", "rg", 1);
        boundary("ga;", "r", 1);
        boundary(NINE, "g", 9);
        boundary(NINE + "ga;", "", 10);
        within("n", "23456", 0);
        within("r", "abc", 0);
        within("ra", "bc", 0);
        within("rca", "b", 0);
        within("rabc", ";", 0);
        within("g", "abc(", 0);
        within("ga", ";", 0);
        within("g(", "abc(", 0);
        within("g(a", "abc(", 0);
        within("g(aa", ")", 0);
        within("g((ab)", "abc(", 0);
        within("g((ab)c", ")", 0);
        within("g(ab)", ";", 0);
        within("n2;r", "ab", 1);
        within("n2;g", "ab(", 1);
        within("n6;r", "abcdef", 1);
        within("n6;rabcde", "f", 1);
        within("n6;g", "abcdef(", 1);
        within("g" + "(".repeat(30), "abc(", 0);
        within("g" + "(".repeat(31), "", 0);
        for (int letter = 0; letter < 256; letter++) {
            boolean digit = letter >= '0' && letter <= '9';
            int want = letter == ';' ? 1 : letter == ' ' ? -13 : digit ? -11 : -12;
            letter("n3", letter, want);
        }
    }

    private static void boundary(String beginning, String may, int items) {
        for (int letter = 0; letter < 256; letter++) {
            int length = beginning.length();
            boolean stands = may.indexOf(letter) >= 0;
            letter(beginning, letter, letter == ' ' ? items : -10 - (stands ? length + 1 : length));
        }
    }

    private static void within(String beginning, String may, int items) {
        for (int letter = 0; letter < 256; letter++) {
            int length = beginning.length();
            boolean stands = letter == ' ' || may.indexOf(letter) >= 0;
            boolean ends = stands && letter == ';';
            letter(beginning, letter, ends ? items + 1 : -10 - (stands ? length + 1 : length));
        }
    }

    private static void letter(String beginning, int letter, int want) {
        MotionDesk desk = new MotionDesk();
        Check.type(desk, beginning);
        desk.type(letter);
        due("desk() of " + beginning + " and the letter " + letter, desk.desk(), want);
    }

    /** "the first TOKEN that can't stand there": of several faults the first. */
    private static void theFirstFaultCounts() {
        fault("rabd;x", 3);
        fault("rabx;d", 3);
        fault("n7;n100;", 1);
        fault("n100;n7;", 1);
        fault("ga;ga;rabcd;", 3);
        fault("rabcd;ga;ga;", 4);
        fault("ga;rabb", 6);
        fault("x", 0);
        fault("  x", 2);
    }

    /** "the text's length, if it ends too early": each beginning of a text, and blanks behind it. */
    private static void theTextEndsTooEarly() {
        String text = " n 4 ; r d a b c ; g ( ( a b ) (c d)); rabcd;";
        int items = 0;
        boolean ended = true;
        for (int length = 0; length <= text.length(); length++) {
            String beginning = text.substring(0, length);
            if (length > 0 && beginning.charAt(length - 1) == ';') {
                items++;
                ended = true;
            } else if (length > 0 && beginning.charAt(length - 1) != ' ') {
                ended = false;
            }
            told(beginning, ended ? items : -10 - length);
            told(beginning + "   ", ended ? items : -10 - length - 3);
        }
    }

    /** "NODES are numbered as their first letters stand in the text: the root is 0." */
    private static void nodesAreNumberedByFirstLetters() {
        MotionDesk desk = Check.told("n6;g ( (a (b c)) ( (d e) f) );");
        int[] kinds = {-9, -9, 0, -9, 1, 2, -9, -9, 3, 4, 5};
        int[] firsts = {1, 2, -9, 4, -9, -9, 7, 8, -9, -9, -9};
        int[] seconds = {6, 3, -9, 5, -9, -9, 10, 9, -9, -9, -9};
        for (int k = 0; k < kinds.length; k++) {
            due("node(" + k + ", 0)", desk.node(k, 0), kinds[k]);
            due("node(" + k + ", 1)", desk.node(k, 1), firsts[k]);
            due("node(" + k + ", 2)", desk.node(k, 2), seconds[k]);
        }
        due("node(11, 0)", desk.node(11, 0), MotionDesk.BAD);
        due("the root has all", desk.node(0, 3), 63);
    }

    // ---- promises 1 to 4

    /** Promise 1: "As told; no MEMBERS." */
    private static void aNewObject() {
        MotionDesk desk = new MotionDesk();
        int[] counts = {3, 0, 6, 0, 0};
        int[] nows = {7, 1, 0, 0, 0, 0};
        for (int what = 0; what < counts.length; what++) {
            due("new: count(" + what + ")", desk.count(what), counts[what]);
        }
        for (int what = 0; what < nows.length; what++) {
            due("new: now(" + what + ")", desk.now(what), nows[what]);
        }
        due("new: ranking(0, 0)", desk.ranking(0, 0), MotionDesk.BAD);
        due("new: ranks(0, 0)", desk.ranks(0, 0), MotionDesk.BAD);
        due("new: better(0, 0, 0)", desk.better(0, 0, 0), MotionDesk.BAD);
        due("new: undo()", desk.undo(), MotionDesk.STATE);
        due("new: back(0)", desk.back(0), MotionDesk.STATE);
        due("new: back(1)", desk.back(1), MotionDesk.STATE);
        due("new: forget()", desk.forget(), 0);
        due("new: clear()", desk.clear(), 0);
        new Look(new MotionDesk()).dueAs(new Look(Check.told("")), CHECK, "as a text of nothing");
    }

    /** Promise 2: "A letter (0 .. 255) comes to THE TEXT: how many it has. BAD; FULL." */
    private static void type() {
        CHECK.range("type", 0, 255, letter -> new MotionDesk().type(letter));
        MotionDesk desk = new MotionDesk();
        for (int many = 1; many <= 120; many++) {
            due("type, how many", desk.type(many % 2 * 255), many);
        }
        due("type(0), 120 are there", desk.type(0), MotionDesk.FULL);
        due("type(255), 120 are there", desk.type(255), MotionDesk.FULL);
        due("type(-1), 120 are there: BAD first", desk.type(-1), MotionDesk.BAD);
        due("type(256), 120 are there: BAD first", desk.type(256), MotionDesk.BAD);
        due("count(4), full", desk.count(4), 120);
        desk.clear();
        due("type behind clear(), no more full", desk.type(' '), 1);
    }

    /** Promise 3: "THE TEXT is empty: how many letters it had." */
    private static void clear() {
        for (int many : new int[] {0, 1, 119, 120}) {
            MotionDesk desk = new MotionDesk();
            Check.type(desk, "x".repeat(many));
            due("clear() of " + many, desk.clear(), many);
            due("count(4) behind it", desk.count(4), 0);
            due("clear() again", desk.clear(), 0);
            due("desk() behind it", desk.desk(), 0);
        }
        MotionDesk desk = Desks.SOME.make();
        int letters = desk.clear();
        Check.type(desk, "rcba;gb;");
        due("clear() of some", letters, 8);
        new Look(desk).dueAs(new Look(Desks.SOME.make()), CHECK, "clear() changes nothing but the text");
    }

    /** Promise 4: "THE TEXT tells all anew, and is empty then: how many ITEMS." */
    private static void desk() {
        told("", 0);
        told(" ", 0);
        told(" ".repeat(120), 0);
        told("n2;", 1);
        told("n2;" + "rab;".repeat(9) + "g(ab);", 11);
        MotionDesk desk = new MotionDesk();
        Check.type(desk, "n2;" + " ".repeat(117));
        due("desk() of 120 letters", desk.desk(), 1);
        due("count(4): empty then", desk.count(4), 0);
        due("type: no more full", desk.type('n'), 1);
        desk.clear();
        due("desk() of the empty text", desk.desk(), 0);
        due("count(0): told anew", desk.count(0), 3);
    }

    /** "(Read anew: as told, nothing can be UNDONE, nothing SEEN, IMAGES are gone.)" */
    private static void deskReadsAnew() {
        for (Desks desks : Desks.values()) {
            for (String text : new String[] {"", "n2;", "rcba;g((ab)c);", "n4;gd;rdcba;"}) {
                MotionDesk desk = desks.make();
                desk.clear();
                Check.tell(desk, text);
                new Look(desk).dueAs(new Look(Check.told(text)), CHECK, desks + ", read anew: " + text);
            }
        }
    }

    /** "-10 less FAULT: nothing changes": THE TEXT stays, too. */
    private static void deskChangesNothingAtAFault() {
        MotionDesk first = new MotionDesk();
        Check.type(first, "x");
        due("desk(), a fault at 0", first.desk(), -10);
        due("count(4): the text stays", first.count(4), 1);
        due("desk(), again", first.desk(), -10);
        MotionDesk last = new MotionDesk();
        Check.type(last, "rabc;" + " ".repeat(114) + "r");
        due("desk(), a fault at 120", last.desk(), -130);
        due("type: still full", last.type(' '), MotionDesk.FULL);
        String[] faults = {"n2;rba;gax", "n6;rabcdeg;", "rcba;rcba;ga;ga;", "n2;rba"};
        for (String text : faults) {
            MotionDesk desk = faulty(text);
            due("desk() of " + text + ", refused (1)", desk.desk() <= -10 ? 1 : 0, 1);
            new Look(desk).dueAs(new Look(faulty(text)), CHECK, "behind the fault of " + text);
        }
    }

    private static MotionDesk faulty(String text) {
        MotionDesk desk = Desks.FULL.make();
        desk.clear();
        Check.type(desk, text);
        return desk;
    }

    /** "An object is used for at most 512 calls": the last of them answers, too. */
    private static void the512thCall() {
        MotionDesk desk = new MotionDesk();
        for (int call = 1; call <= 500; call++) {
            due("call " + call, desk.sets(call % 6), 7);
        }
        for (int left = 9; left >= 0; left--) {
            due("undo()", desk.undo(), left);
        }
        due("call 511", desk.undo(), MotionDesk.STATE);
        due("call 512: the 490th call, sets(4), stands", desk.node(2, 0), 2);
    }
}
