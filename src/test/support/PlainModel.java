import java.util.ArrayDeque;
import java.util.ArrayList;
import java.util.Collections;
import java.util.Deque;
import java.util.List;
import java.util.TreeSet;

/**
 * The document's words once more, as slowly and as literally as can be, over lists and trees of
 * objects. It shares no line and no trick with MotionDesk.
 */
final class PlainModel {
    static final int BAD = -1, STATE = -2, FULL = -3, NONE = -9;

    /** A branch is a motion, or two branches. */
    static final class Branch {
        final int motion;
        final Branch first;
        final Branch second;

        Branch(int motion) {
            this.motion = motion;
            this.first = null;
            this.second = null;
        }

        Branch(Branch first, Branch second) {
            this.motion = NONE;
            this.first = first;
            this.second = second;
        }

        boolean isLeaf() {
            return first == null;
        }

        TreeSet<Integer> motions() {
            TreeSet<Integer> set = new TreeSet<>();
            if (isLeaf()) {
                set.add(motion);
            } else {
                set.addAll(first.motions());
                set.addAll(second.motions());
            }
            return set;
        }

        void list(List<Branch> into) {
            into.add(this);
            if (!isLeaf()) {
                first.list(into);
                second.list(into);
            }
        }

        /** The same tree, but both branches of that vote (this very object) change. */
        Branch turned(Branch vote) {
            if (this == vote) {
                return new Branch(second, first);
            }
            return isLeaf() ? this : new Branch(first.turned(vote), second.turned(vote));
        }
    }

    /** Rankings and the agenda; never changed, only replaced. */
    static final class Things {
        final List<List<Integer>> rankings;
        final Branch agenda;

        Things(List<List<Integer>> rankings, Branch agenda) {
            this.rankings = rankings;
            this.agenda = agenda;
        }
    }

    static final class Seen {
        final TreeSet<Integer> first;
        final TreeSet<Integer> second;
        final int branch;

        Seen(TreeSet<Integer> first, TreeSet<Integer> second, int branch) {
            this.first = first;
            this.second = second;
            this.branch = branch;
        }
    }

    static final class Fault extends RuntimeException {
        private static final long serialVersionUID = 1L;
        final int place;

        Fault(int place) {
            this.place = place;
        }
    }

    private final StringBuilder text = new StringBuilder();
    private int motions = 3;
    private Things things;
    private final Deque<Things> past = new ArrayDeque<>();
    private final Things[] images = new Things[2];
    private final List<Seen> seen = new ArrayList<>();

    PlainModel() {
        things = new Things(new ArrayList<>(), agendaOf(allOrders(3).get(0)));
    }

    // ---- terms

    static List<List<Integer>> allOrders(int motions) {
        List<List<Integer>> all = new ArrayList<>();
        extend(new ArrayList<>(), motions, all);
        return all;
    }

    private static void extend(List<Integer> begun, int motions, List<List<Integer>> all) {
        if (begun.size() == motions) {
            all.add(new ArrayList<>(begun));
        }
        for (int motion = 0; motion < motions; motion++) {
            if (!begun.contains(motion)) {
                begun.add(motion);
                extend(begun, motions, all);
                begun.remove(begun.size() - 1);
            }
        }
    }

    static Branch agendaOf(List<Integer> order) {
        if (order.size() == 1) {
            return new Branch(order.get(0));
        }
        List<Integer> withFirst = new ArrayList<>(order);
        withFirst.remove(1);
        return new Branch(agendaOf(withFirst), agendaOf(order.subList(1, order.size())));
    }

    private static int votesFor(List<List<Integer>> rankings, int a, int b) {
        int many = 0;
        for (List<Integer> ranking : rankings) {
            if (ranking.indexOf(a) < ranking.indexOf(b)) {
                many++;
            }
        }
        return many;
    }

    private static boolean beats(List<List<Integer>> rankings, int a, int b) {
        int forA = votesFor(rankings, a, b);
        int forB = votesFor(rankings, b, a);
        return forA > forB || forA == forB && a < b;
    }

    /** 0 or 1: the branch that a ranking votes for. */
    private static int choice(List<Integer> ranking, TreeSet<Integer> first, TreeSet<Integer> second) {
        List<Integer> a = bestToWorst(ranking, first);
        List<Integer> b = bestToWorst(ranking, second);
        for (int i = 0; i < Math.max(a.size(), b.size()); i++) {
            if (i >= a.size()) {
                return 1;
            }
            if (i >= b.size()) {
                return 0;
            }
            int placeA = ranking.indexOf(a.get(i));
            int placeB = ranking.indexOf(b.get(i));
            if (placeA != placeB) {
                return placeA < placeB ? 0 : 1;
            }
        }
        return 0;
    }

    private static List<Integer> bestToWorst(List<Integer> ranking, TreeSet<Integer> set) {
        List<Integer> list = new ArrayList<>();
        for (int motion : ranking) {
            if (set.contains(motion)) {
                list.add(motion);
            }
        }
        return list;
    }

    private static int forFirst(List<List<Integer>> rankings, Branch vote) {
        TreeSet<Integer> first = vote.first.motions();
        TreeSet<Integer> second = vote.second.motions();
        int many = 0;
        for (List<Integer> ranking : rankings) {
            if (choice(ranking, first, second) == 0) {
                many++;
            }
        }
        return many;
    }

    private static int sincere(List<List<Integer>> rankings, Branch branch) {
        if (branch.isLeaf()) {
            return branch.motion;
        }
        int first = forFirst(rankings, branch);
        return sincere(rankings, first >= rankings.size() - first ? branch.first : branch.second);
    }

    private static int foreseen(List<List<Integer>> rankings, Branch branch) {
        if (branch.isLeaf()) {
            return branch.motion;
        }
        int a = foreseen(rankings, branch.first);
        int b = foreseen(rankings, branch.second);
        return a != b && beats(rankings, b, a) ? b : a;
    }

    private static int outcome(List<List<Integer>> rankings, Branch branch, int way) {
        return way == 0 ? sincere(rankings, branch) : foreseen(rankings, branch);
    }

    private static int bits(Iterable<Integer> set) {
        int bits = 0;
        for (int motion : set) {
            bits |= 1 << motion;
        }
        return bits;
    }

    private static boolean in(int number, int least, int most) {
        return number >= least && number <= most;
    }

    private boolean isMotion(int number) {
        return in(number, 0, motions - 1);
    }

    private boolean isMember(int number) {
        return in(number, 0, things.rankings.size() - 1);
    }

    private List<Branch> nodes() {
        List<Branch> list = new ArrayList<>();
        things.agenda.list(list);
        return list;
    }

    private void become(Things next) {
        past.addLast(things);
        if (past.size() > 10) {
            past.removeFirst();
        }
        things = next;
    }

    // ---- the desk

    int type(int letter) {
        if (!in(letter, 0, 255)) {
            return BAD;
        }
        if (text.length() == 120) {
            return FULL;
        }
        text.append((char) letter);
        return text.length();
    }

    int clear() {
        int had = text.length();
        text.setLength(0);
        return had;
    }

    int desk() {
        Parser parser = new Parser(text.toString());
        try {
            parser.items();
        } catch (Fault fault) {
            return -10 - fault.place;
        }
        motions = parser.motions;
        Branch agenda = parser.agenda == null ? agendaOf(allOrders(motions).get(0)) : parser.agenda;
        things = new Things(parser.rankings, agenda);
        past.clear();
        seen.clear();
        images[0] = null;
        images[1] = null;
        text.setLength(0);
        return parser.items;
    }

    /** Works on words that are split off the text one after the other. */
    static final class Parser {
        final String text;
        int at = 0;
        int motions = 3;
        int items = 0;
        int nodes = 0;
        final List<List<Integer>> rankings = new ArrayList<>();
        Branch agenda = null;

        Parser(String text) {
            this.text = text;
        }

        String peek() {
            while (at < text.length() && text.charAt(at) == 32) {
                at++;
            }
            if (at == text.length()) {
                return "";
            }
            int end = at;
            while (end < text.length() && "0123456789".indexOf(text.charAt(end)) >= 0) {
                end++;
            }
            return text.substring(at, Math.max(end, at + 1));
        }

        void pass(String word) {
            at += word.length();
        }

        void want(String word) {
            if (!peek().equals(word)) {
                throw new Fault(at);
            }
            pass(word);
        }

        void items() {
            for (String word = peek(); !word.isEmpty(); word = peek()) {
                if (word.equals("n") && items == 0) {
                    pass(word);
                    motions();
                } else if (word.equals("r") && rankings.size() < 9) {
                    pass(word);
                    ranking();
                } else if (word.equals("g") && agenda == null) {
                    pass(word);
                    agenda = branch();
                } else {
                    throw new Fault(at);
                }
                want(";");
                items++;
            }
        }

        void motions() {
            String word = peek();
            if (!List.of("2", "3", "4", "5", "6").contains(word)) {
                throw new Fault(at);
            }
            motions = Integer.parseInt(word);
            pass(word);
        }

        int motion(String word) {
            return word.isEmpty() ? -1 : "abcdef".substring(0, motions).indexOf(word);
        }

        void ranking() {
            List<Integer> ranking = new ArrayList<>();
            while (ranking.size() < motions) {
                String word = peek();
                int motion = motion(word);
                if (motion < 0 || ranking.contains(motion)) {
                    throw new Fault(at);
                }
                ranking.add(motion);
                pass(word);
            }
            rankings.add(ranking);
        }

        Branch branch() {
            String word = peek();
            int motion = motion(word);
            if (motion < 0 && !word.equals("(")) {
                throw new Fault(at);
            }
            nodes++;
            if (nodes == 32) {
                throw new Fault(at);
            }
            pass(word);
            if (motion >= 0) {
                return new Branch(motion);
            }
            Branch first = branch();
            Branch second = branch();
            want(")");
            return new Branch(first, second);
        }
    }

    int ranking(int member, int place) {
        return isMember(member) && isMotion(place) ? things.rankings.get(member).get(place) : BAD;
    }

    int node(int k, int what) {
        List<Branch> nodes = nodes();
        if (!in(k, 0, nodes.size() - 1) || !in(what, 0, 6)) {
            return BAD;
        }
        Branch node = nodes.get(k);
        switch (what) {
            case 0: return node.motion;
            case 1: return node.isLeaf() ? NONE : placeOf(nodes, node.first, k);
            case 2: return node.isLeaf() ? NONE : placeOf(nodes, node.second, k);
            case 3: return bits(node.motions());
            case 4: return sincere(things.rankings, node);
            case 5: return foreseen(things.rankings, node);
            default: return node.isLeaf() ? 0 : forFirst(things.rankings, node);
        }
    }

    /** By identity: the branch objects of an agenda are all different ones. */
    private static int placeOf(List<Branch> nodes, Branch node, int behind) {
        for (int i = behind + 1; i < nodes.size(); i++) {
            if (nodes.get(i) == node) {
                return i;
            }
        }
        throw new IllegalStateException();
    }

    int votes(int a, int b) {
        return isMotion(a) && isMotion(b) && a != b ? votesFor(things.rankings, a, b) : BAD;
    }

    int now(int what) {
        switch (what) {
            case 0: return nodes().size();
            case 1: return top();
            case 2: return winner();
            case 3: return sincere(things.rankings, things.agenda);
            case 4: return foreseen(things.rankings, things.agenda);
            case 5: return past.size();
            default: return BAD;
        }
    }

    /** The motions from which a chain of beating leads to every other one. */
    private int top() {
        boolean[][] leads = new boolean[motions][motions];
        for (int a = 0; a < motions; a++) {
            for (int b = 0; b < motions; b++) {
                leads[a][b] = a == b || beats(things.rankings, a, b);
            }
        }
        for (int by = 0; by < motions; by++) {
            for (int a = 0; a < motions; a++) {
                for (int b = 0; b < motions; b++) {
                    leads[a][b] |= leads[a][by] && leads[by][b];
                }
            }
        }
        int bits = 0;
        for (int a = 0; a < motions; a++) {
            boolean all = true;
            for (int b = 0; b < motions; b++) {
                all &= leads[a][b];
            }
            bits |= all ? 1 << a : 0;
        }
        return bits;
    }

    private int winner() {
        for (int a = 0; a < motions; a++) {
            boolean all = true;
            for (int b = 0; b < motions; b++) {
                all &= a == b || beats(things.rankings, a, b);
            }
            if (all) {
                return a;
            }
        }
        return NONE;
    }

    // ---- what is done

    int ranks(int member, int place) {
        if (!isMember(member) || !in(place, 0, motions - 2)) {
            return BAD;
        }
        List<Integer> ranking = new ArrayList<>(things.rankings.get(member));
        Collections.swap(ranking, place, place + 1);
        List<List<Integer>> rankings = new ArrayList<>(things.rankings);
        rankings.set(member, ranking);
        become(new Things(rankings, things.agenda));
        return foreseen(things.rankings, things.agenda);
    }

    int swaps(int k) {
        List<Branch> nodes = nodes();
        if (!in(k, 0, nodes.size() - 1)) {
            return BAD;
        }
        if (nodes.get(k).isLeaf()) {
            return STATE;
        }
        become(new Things(things.rankings, things.agenda.turned(nodes.get(k))));
        return sincere(things.rankings, things.agenda);
    }

    int sets(int order) {
        List<List<Integer>> orders = allOrders(motions);
        if (!in(order, 0, orders.size() - 1)) {
            return BAD;
        }
        become(new Things(things.rankings, agendaOf(orders.get(order))));
        return nodes().size();
    }

    int undo() {
        if (past.isEmpty()) {
            return STATE;
        }
        things = past.removeLast();
        return past.size();
    }

    // ---- orders, members

    int order(int k, int place) {
        List<List<Integer>> orders = allOrders(motions);
        return in(k, 0, orders.size() - 1) && isMotion(place) ? orders.get(k).get(place) : BAD;
    }

    int reach(int motion, int way, int what) {
        if (!isMotion(motion) || !in(way, 0, 1) || !in(what, 0, 1)) {
            return BAD;
        }
        List<Integer> by = new ArrayList<>();
        List<List<Integer>> orders = allOrders(motions);
        for (int k = 0; k < orders.size(); k++) {
            if (outcome(things.rankings, agendaOf(orders.get(k)), way) == motion) {
                by.add(k);
            }
        }
        return what == 0 ? by.size() : by.isEmpty() ? NONE : by.get(0);
    }

    int better(int member, int way, int what) {
        if (!isMember(member) || !in(way, 0, 1) || !in(what, 0, 2)) {
            return BAD;
        }
        List<Integer> own = things.rankings.get(member);
        int asItIs = own.indexOf(outcome(things.rankings, things.agenda, way));
        List<Integer> places = new ArrayList<>();
        for (List<Integer> other : allOrders(motions)) {
            List<List<Integer>> rankings = new ArrayList<>(things.rankings);
            rankings.set(member, other);
            places.add(own.indexOf(outcome(rankings, things.agenda, way)));
        }
        if (what == 0) {
            return (int) places.stream().filter(place -> place < asItIs).count();
        }
        int best = Collections.min(places);
        return what == 1 ? own.get(best) : places.indexOf(best);
    }

    int won(int motion, int way, int what) {
        if (!isMotion(motion) || !in(way, 0, 1) || !in(what, 0, 1)) {
            return BAD;
        }
        int members = things.rankings.size();
        for (int few = 0; few <= members; few++) {
            for (int some = 0; some < 1 << members; some++) {
                if (Integer.bitCount(some) == few && wonBy(motion, way, some)) {
                    return what == 0 ? few : some;
                }
            }
        }
        return NONE;
    }

    private boolean wonBy(int motion, int way, int some) {
        List<List<Integer>> rankings = new ArrayList<>();
        for (int member = 0; member < things.rankings.size(); member++) {
            List<Integer> ranking = new ArrayList<>(things.rankings.get(member));
            if ((some >> member & 1) == 1) {
                ranking.remove(Integer.valueOf(motion));
                ranking.add(0, motion);
            }
            rankings.add(ranking);
        }
        return outcome(rankings, things.agenda, way) == motion;
    }

    int odds(int x, int motion, int way, int what) {
        if (!in(x, 0, 10) || !isMotion(motion) || !in(way, 0, 1) || !in(what, 0, 1)) {
            return BAD;
        }
        long upper = chance(x, motion, way, 0, new ArrayList<>());
        long lower = 1;
        for (int i = 0; i < things.rankings.size(); i++) {
            lower *= 10;
        }
        for (int divisor : new int[] {2, 5}) {
            while (upper % divisor == 0 && lower % divisor == 0) {
                upper /= divisor;
                lower /= divisor;
            }
        }
        return (int) (what == 0 ? upper : lower);
    }

    /** Of 10 for each member from that one on. */
    private long chance(int x, int motion, int way, int member, List<List<Integer>> present) {
        if (member == things.rankings.size()) {
            return outcome(present, things.agenda, way) == motion ? 1 : 0;
        }
        long away = chance(x, motion, way, member + 1, present);
        present.add(things.rankings.get(member));
        long there = chance(x, motion, way, member + 1, present);
        present.remove(present.size() - 1);
        return x * away + (10 - x) * there;
    }

    // ---- which ranking

    int sees(int k, int branch) {
        List<Branch> nodes = nodes();
        if (!in(k, 0, nodes.size() - 1) || !in(branch, 0, 1)) {
            return BAD;
        }
        Branch vote = nodes.get(k);
        if (vote.isLeaf()) {
            return STATE;
        }
        if (seen.size() == 6) {
            return FULL;
        }
        seen.add(new Seen(vote.first.motions(), vote.second.motions(), branch));
        return seen.size();
    }

    int forget() {
        int was = seen.size();
        seen.clear();
        return was;
    }

    private List<Integer> possible() {
        List<Integer> list = new ArrayList<>();
        List<List<Integer>> all = allOrders(motions);
        for (int k = 0; k < all.size(); k++) {
            boolean so = true;
            for (Seen one : seen) {
                so &= choice(all.get(k), one.first, one.second) == one.branch;
            }
            if (so) {
                list.add(k);
            }
        }
        return list;
    }

    int rankings(int what) {
        List<Integer> possible = possible();
        switch (what) {
            case 0: return possible.size();
            case 1: return possible.isEmpty() ? NONE : possible.get(0);
            default: return BAD;
        }
    }

    int watch() {
        List<Integer> possible = possible();
        if (possible.size() <= 1) {
            return NONE;
        }
        List<List<Integer>> all = allOrders(motions);
        List<Branch> nodes = nodes();
        int chosen = NONE;
        int least = Integer.MAX_VALUE;
        for (int k = 0; k < nodes.size(); k++) {
            Branch vote = nodes.get(k);
            if (vote.isLeaf()) {
                continue;
            }
            int[] parts = new int[2];
            for (int ranking : possible) {
                parts[choice(all.get(ranking), vote.first.motions(), vote.second.motions())]++;
            }
            if (Math.max(parts[0], parts[1]) < least) {
                least = Math.max(parts[0], parts[1]);
                chosen = k;
            }
        }
        return chosen;
    }

    // ---- images

    int keep(int image) {
        if (!in(image, 0, 1)) {
            return BAD;
        }
        images[image] = things;
        return nodes().size();
    }

    int back(int image) {
        if (!in(image, 0, 1)) {
            return BAD;
        }
        if (images[image] == null) {
            return STATE;
        }
        things = images[image];
        past.clear();
        return nodes().size();
    }

    int count(int what) {
        switch (what) {
            case 0: return motions;
            case 1: return things.rankings.size();
            case 2: return allOrders(motions).size();
            case 3: return seen.size();
            case 4: return text.length();
            default: return BAD;
        }
    }
}
