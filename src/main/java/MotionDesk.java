import java.util.Arrays;

/**
 * A desk of motions: members rank motions, an agenda sets branch against branch, and the desk says
 * what comes of it. Every row is made in a constructor, so that no call makes an object.
 */
public final class MotionDesk {
    public static final int BAD = -1, STATE = -2, FULL = -3, NONE = -9;

    private static final int MOST_LETTERS = 120;
    private static final int LEAST_MOTIONS = 2;
    private static final int USUAL_MOTIONS = 3;
    private static final int MOST_MOTIONS = 6;
    private static final int MOST_MEMBERS = 9;
    /** A text may tell this many nodes; the agenda of an order of six motions has more. */
    private static final int MOST_TOLD_NODES = 31;
    private static final int MOST_NODES = 63;
    private static final int MOST_KNOWN = 10;
    private static final int MOST_SEEN = 6;
    private static final int IMAGES = 2;
    private static final int SHARES = 10;

    /** The kind of a node that is no leaf; a leaf's kind is its motion. */
    private static final int VOTE = -1;

    private static final int WAYS = 2;
    private static final int SINCERE = 0;

    /** How many orders there are of 0, 1, .. motions. */
    private static final int[] ORDERS = {1, 1, 2, 6, 24, 120, 720};

    private final Text text = new Text();
    private final Picture standing = new Picture();

    /** What follows from the standing picture; settle() brings both up to it. */
    private final Tree tree = new Tree();
    private final Ballots ballots = new Ballots();

    /** Ballots that are only thought of, and what they are mixed from. */
    private final Ballots changed = new Ballots();
    private final Ballots supposed = new Ballots();

    private final Picture[] known = new Picture[MOST_KNOWN];
    private int knownCount = 0;

    private final Picture[] images = new Picture[IMAGES];
    private int imagesKept = 0;

    private final Sightings sightings = new Sightings();

    /** Rows that calls use and leave as they are. */
    private final int[] row = new int[MOST_MOTIONS];
    private final int[] outcomes = new int[MOST_MOTIONS];
    private final int[] presentCounts = new int[MOST_MEMBERS + 1];
    private final int[] firstCounts = new int[MOST_NODES];

    public MotionDesk() {
        for (int i = 0; i < MOST_KNOWN; i++) {
            known[i] = new Picture();
        }
        for (int i = 0; i < IMAGES; i++) {
            images[i] = new Picture();
        }
        standing.empty(USUAL_MOTIONS);
        layOrder(0, standing.motions, row);
        standing.plant(row);
        settle();
    }

    // ---- the desk

    public int type(int letter) {
        if (letter < 0 || letter > 255) {
            return BAD;
        }
        if (text.length >= MOST_LETTERS) {
            return FULL;
        }
        text.append(letter);
        return text.length;
    }

    public int clear() {
        int had = text.length;
        text.length = 0;
        return had;
    }

    public int desk() {
        int items = text.read();
        if (items < 0) {
            return -10 - text.signAt;
        }
        standing.copy(text.told);
        if (standing.nodes == 0) {
            layOrder(0, standing.motions, row);
            standing.plant(row);
        }
        text.length = 0;
        knownCount = 0;
        imagesKept = 0;
        sightings.size = 0;
        settle();
        return items;
    }

    public int ranking(int member, int place) {
        if (!isMember(member) || !isMotion(place)) {
            return BAD;
        }
        return standing.ranked[member * MOST_MOTIONS + place];
    }

    public int node(int k, int what) {
        if (!within(k, tree.nodes) || !within(what, 7)) {
            return BAD;
        }
        boolean vote = tree.isVote(k);
        switch (what) {
            case 0:
                return vote ? NONE : tree.kinds[k];
            case 1:
                return vote ? tree.first(k) : NONE;
            case 2:
                return vote ? tree.second(k) : NONE;
            case 3:
                return tree.motionsOf[k];
            case 4:
                return ballots.sincere(tree, k, everyone());
            case 5:
                return ballots.foreseen(tree, k, everyone());
            default:
                return Integer.bitCount(ballots.forFirst[k]);
        }
    }

    public int votes(int a, int b) {
        if (!isMotion(a) || !isMotion(b) || a == b) {
            return BAD;
        }
        return Integer.bitCount(ballots.above[a * MOST_MOTIONS + b]);
    }

    public int now(int what) {
        switch (what) {
            case 0:
                return tree.nodes;
            case 1:
                return top();
            case 2:
                return beatsAllOthers();
            case 3:
                return ballots.sincere(tree, 0, everyone());
            case 4:
                return ballots.foreseen(tree, 0, everyone());
            case 5:
                return knownCount;
            default:
                return BAD;
        }
    }

    // ---- what is done

    public int ranks(int member, int place) {
        if (!isMember(member) || !within(place, standing.motions - 1)) {
            return BAD;
        }
        remember();
        standing.exchange(member, place);
        settle();
        return ballots.foreseen(tree, 0, everyone());
    }

    public int swaps(int k) {
        if (!within(k, tree.nodes)) {
            return BAD;
        }
        if (!tree.isVote(k)) {
            return STATE;
        }
        remember();
        standing.turn(tree, k);
        settle();
        return ballots.sincere(tree, 0, everyone());
    }

    public int sets(int order) {
        if (!isOrder(order)) {
            return BAD;
        }
        remember();
        layOrder(order, standing.motions, row);
        standing.plant(row);
        settle();
        return tree.nodes;
    }

    public int undo() {
        if (knownCount <= 0) {
            return STATE;
        }
        knownCount--;
        standing.copy(known[knownCount]);
        settle();
        return knownCount;
    }

    // ---- orders, members

    public int order(int k, int place) {
        if (!isOrder(k) || !isMotion(place)) {
            return BAD;
        }
        layOrder(k, standing.motions, row);
        return row[place];
    }

    public int reach(int motion, int way, int what) {
        if (!isMotion(motion) || !isWay(way) || !within(what, 2)) {
            return BAD;
        }
        int many = 0;
        int first = NONE;
        for (int k = 0; k < orders(); k++) {
            layOrder(k, standing.motions, row);
            if (outcomeOfRow(way) == motion) {
                many++;
                if (first == NONE) {
                    first = k;
                }
            }
        }
        return what == 0 ? many : first;
    }

    public int better(int member, int way, int what) {
        if (!isMember(member) || !isWay(way) || !within(what, 3)) {
            return BAD;
        }
        int asItIs = standing.placeOf(member, ballots.outcome(tree, way, everyone()));
        int many = 0;
        int best = standing.motions;
        int first = 0;
        changed.copy(ballots);
        for (int k = 0; k < orders(); k++) {
            layOrder(k, standing.motions, row);
            if (way == SINCERE) {
                changed.castSincere(tree, row, 0, standing.motions, 1 << member);
            } else {
                changed.castAbove(row, 0, standing.motions, 1 << member);
            }
            int place = standing.placeOf(member, changed.outcome(tree, way, everyone()));
            if (place < asItIs) {
                many++;
            }
            if (place < best) {
                best = place;
                first = k;
            }
        }
        if (what == 0) {
            return many;
        }
        return what == 1 ? ranking(member, best) : first;
    }

    public int won(int motion, int way, int what) {
        if (!isMotion(motion) || !isWay(way) || !within(what, 2)) {
            return BAD;
        }
        for (int member = 0; member < standing.members; member++) {
            standing.layWithFirst(member, motion, row);
            supposed.cast(tree, row, 0, standing.motions, 1 << member);
        }
        int fewest = MOST_MEMBERS + 1;
        int which = NONE;
        for (int some = 0; some <= everyone(); some++) {
            int size = Integer.bitCount(some);
            if (size < fewest) {
                changed.mix(ballots, supposed, some);
                if (changed.outcome(tree, way, everyone()) == motion) {
                    fewest = size;
                    which = some;
                }
            }
        }
        return what == 0 && which != NONE ? fewest : which;
    }

    public int odds(int x, int motion, int way, int what) {
        if (!within(x, SHARES + 1) || !isMotion(motion) || !isWay(way) || !within(what, 2)) {
            return BAD;
        }
        Arrays.fill(presentCounts, 0);
        for (int present = 0; present <= everyone(); present++) {
            if (ballots.outcome(tree, way, present) == motion) {
                presentCounts[Integer.bitCount(present)]++;
            }
        }
        long upper = 0;
        for (int size = 0; size <= standing.members; size++) {
            upper += presentCounts[size] * power(SHARES - x, size) * power(x, standing.members - size);
        }
        long lower = power(SHARES, standing.members);
        long common = commonDivisor(upper, lower);
        if (common == 0) {
            return NONE;
        }
        return (int) ((what == 0 ? upper : lower) / common);
    }

    // ---- which ranking

    public int sees(int k, int branch) {
        if (!within(k, tree.nodes) || !within(branch, 2)) {
            return BAD;
        }
        if (!tree.isVote(k)) {
            return STATE;
        }
        if (sightings.size >= MOST_SEEN) {
            return FULL;
        }
        sightings.add(tree.motionsOf[tree.first(k)], tree.motionsOf[tree.second(k)], branch);
        return sightings.size;
    }

    public int forget() {
        int was = sightings.size;
        sightings.size = 0;
        return was;
    }

    public int rankings(int what) {
        if (!within(what, 2)) {
            return BAD;
        }
        int many = 0;
        int first = NONE;
        for (int k = 0; k < orders(); k++) {
            layOrder(k, standing.motions, row);
            if (sightings.agree(row, standing.motions)) {
                many++;
                if (first == NONE) {
                    first = k;
                }
            }
        }
        return what == 0 ? many : first;
    }

    public int watch() {
        int many = countFirsts();
        if (many <= 1) {
            return NONE;
        }
        int chosen = NONE;
        int smallest = many + 1;
        for (int k = 0; k < tree.nodes; k++) {
            int greater = Math.max(firstCounts[k], many - firstCounts[k]);
            if (tree.isVote(k) && greater < smallest) {
                smallest = greater;
                chosen = k;
            }
        }
        return chosen;
    }

    // ---- images

    public int keep(int image) {
        if (!within(image, IMAGES)) {
            return BAD;
        }
        images[image].copy(standing);
        imagesKept |= 1 << image;
        return tree.nodes;
    }

    public int back(int image) {
        if (!within(image, IMAGES)) {
            return BAD;
        }
        if ((imagesKept >> image & 1) == 0) {
            return STATE;
        }
        standing.copy(images[image]);
        knownCount = 0;
        settle();
        return tree.nodes;
    }

    public int count(int what) {
        switch (what) {
            case 0:
                return standing.motions;
            case 1:
                return standing.members;
            case 2:
                return orders();
            case 3:
                return sightings.size;
            case 4:
                return text.length;
            default:
                return BAD;
        }
    }

    // ---- what the calls share

    private static boolean within(int number, int bound) {
        return number >= 0 && number < bound;
    }

    /** Places of a ranking are as many as motions, so this tells a place, too. */
    private boolean isMotion(int number) {
        return within(number, standing.motions);
    }

    private boolean isMember(int number) {
        return within(number, standing.members);
    }

    private boolean isWay(int number) {
        return within(number, WAYS);
    }

    private boolean isOrder(int number) {
        return within(number, orders());
    }

    private int orders() {
        return ORDERS[standing.motions];
    }

    /** All members, as bits. */
    private int everyone() {
        return (1 << standing.members) - 1;
    }

    private void settle() {
        tree.measure(standing);
        ballots.castAll(tree, standing);
    }

    private void remember() {
        if (knownCount >= MOST_KNOWN) {
            Picture oldest = known[0];
            for (int i = 1; i < MOST_KNOWN; i++) {
                known[i - 1] = known[i];
            }
            known[MOST_KNOWN - 1] = oldest;
            knownCount = MOST_KNOWN - 1;
        }
        known[knownCount].copy(standing);
        knownCount++;
    }

    /** The k-th order of 0 .. motions - 1, by the first motion, then the second, and so on. */
    private static void layOrder(int k, int motions, int[] into) {
        int left = k;
        int used = 0;
        for (int place = 0; place < motions; place++) {
            int each = ORDERS[motions - 1 - place];
            for (int motion = 0; motion < motions; motion++) {
                if ((used >> motion & 1) == 1) {
                    continue;
                }
                if (left < each) {
                    into[place] = motion;
                    used |= 1 << motion;
                    break;
                }
                left -= each;
            }
        }
    }

    /** Of both sets a ranking likes that one better which has the best motion that only one has. */
    private static boolean likesFirst(int[] ranked, int from, int motions, int first, int second) {
        int apart = first ^ second;
        for (int place = 0; place < motions; place++) {
            int motion = ranked[from + place];
            if ((apart >> motion & 1) == 1) {
                return (first >> motion & 1) == 1;
            }
        }
        return true;
    }

    private int top() {
        int all = (1 << standing.motions) - 1;
        int smallest = all;
        for (int some = 1; some < all; some++) {
            if (Integer.bitCount(some) < Integer.bitCount(smallest) && beatsTheRest(some)) {
                smallest = some;
            }
        }
        return smallest;
    }

    private boolean beatsTheRest(int some) {
        for (int a = 0; a < standing.motions; a++) {
            for (int b = 0; b < standing.motions; b++) {
                boolean across = (some >> a & 1) == 1 && (some >> b & 1) == 0;
                if (across && !ballots.beats(a, b, everyone())) {
                    return false;
                }
            }
        }
        return true;
    }

    private int beatsAllOthers() {
        int set = top();
        return Integer.bitCount(set) == 1 ? Integer.numberOfTrailingZeros(set) : NONE;
    }

    /** What comes of the agenda of the order in the row, without its tree. */
    private int outcomeOfRow(int way) {
        return way == SINCERE ? sincereOfRow() : foreseenOfRow();
    }

    /** Both branches of a vote differ in one motion each, so members vote as they rank these two. */
    private int sincereOfRow() {
        int stays = row[0];
        for (int next = 1; next < standing.motions; next++) {
            int forIt = Integer.bitCount(ballots.above[stays * MOST_MOTIONS + row[next]]);
            if (forIt < standing.members - forIt) {
                stays = row[next];
            }
        }
        return stays;
    }

    /** From the last vote to the first: what comes of it if a motion has won all votes ahead. */
    private int foreseenOfRow() {
        for (int motion = 0; motion < standing.motions; motion++) {
            outcomes[motion] = motion;
        }
        for (int next = standing.motions - 1; next >= 1; next--) {
            int ofNext = outcomes[row[next]];
            for (int i = 0; i < next; i++) {
                int stays = row[i];
                outcomes[stays] = ballots.stronger(outcomes[stays], ofNext, everyone());
            }
        }
        return outcomes[row[0]];
    }

    /** Counts the rankings that can be and, of each vote, those that vote for its first branch. */
    private int countFirsts() {
        Arrays.fill(firstCounts, 0);
        int many = 0;
        for (int i = 0; i < orders(); i++) {
            layOrder(i, standing.motions, row);
            if (!sightings.agree(row, standing.motions)) {
                continue;
            }
            many++;
            for (int k = 0; k < tree.nodes; k++) {
                if (tree.isVote(k) && tree.votesFirst(k, row, 0, standing.motions)) {
                    firstCounts[k]++;
                }
            }
        }
        return many;
    }

    private static long power(int base, int times) {
        long product = 1;
        for (int i = 0; i < times; i++) {
            product *= base;
        }
        return product;
    }

    private static long commonDivisor(long a, long b) {
        long more = a;
        long less = b;
        for (int step = 0; step < 1000 && less != 0; step++) {
            long rest = more % less;
            more = less;
            less = rest;
        }
        return more;
    }

    /** All that desk() tells, that an image keeps, that undo() brings back. */
    private static final class Picture {
        private final int[] ranked = new int[MOST_MEMBERS * MOST_MOTIONS];
        /** The agenda's nodes as they are numbered; the first branch stands right behind its vote. */
        private final int[] kinds = new int[MOST_NODES];
        private int motions = USUAL_MOTIONS;
        private int members = 0;
        private int nodes = 0;

        private void empty(int motionsThen) {
            motions = motionsThen;
            members = 0;
            nodes = 0;
        }

        private void copy(Picture other) {
            System.arraycopy(other.ranked, 0, ranked, 0, ranked.length);
            System.arraycopy(other.kinds, 0, kinds, 0, kinds.length);
            motions = other.motions;
            members = other.members;
            nodes = other.nodes;
        }

        private void addNode(int kind) {
            if (nodes < MOST_NODES) {
                kinds[nodes] = kind;
                nodes++;
            }
        }

        /** The agenda becomes that of the order in the row. */
        private void plant(int[] row) {
            nodes = 0;
            grow(row, row[0], 1);
        }

        /** Some six levels deep: a level takes a motion of the row. */
        private void grow(int[] row, int stays, int next) {
            if (next >= motions || next >= MOST_MOTIONS) {
                addNode(stays);
                return;
            }
            addNode(VOTE);
            grow(row, stays, next + 1);
            grow(row, row[next], next + 1);
        }

        private void exchange(int member, int place) {
            int at = member * MOST_MOTIONS + place;
            int motion = ranked[at];
            ranked[at] = ranked[at + 1];
            ranked[at + 1] = motion;
        }

        private void turn(Tree tree, int k) {
            int first = tree.first(k);
            int second = tree.second(k);
            int firstSize = tree.sizes[first];
            int secondSize = tree.sizes[second];
            System.arraycopy(tree.kinds, second, kinds, first, secondSize);
            System.arraycopy(tree.kinds, first, kinds, first + secondSize, firstSize);
        }

        private int placeOf(int member, int motion) {
            for (int place = 0; place < motions; place++) {
                if (ranked[member * MOST_MOTIONS + place] == motion) {
                    return place;
                }
            }
            return motions;
        }

        /** A member's ranking, but with a motion put first. */
        private void layWithFirst(int member, int motion, int[] into) {
            into[0] = motion;
            int at = 1;
            for (int place = 0; place < motions; place++) {
                int other = ranked[member * MOST_MOTIONS + place];
                if (other != motion && at < motions) {
                    into[at] = other;
                    at++;
                }
            }
        }
    }

    /** The agenda, measured. */
    private static final class Tree {
        private final int[] kinds = new int[MOST_NODES];
        /** How many nodes a branch has, with its own first one. */
        private final int[] sizes = new int[MOST_NODES];
        private final int[] motionsOf = new int[MOST_NODES];
        private int nodes = 0;

        /** From the last node to the first, so that both branches are measured ahead of their vote. */
        private void measure(Picture picture) {
            System.arraycopy(picture.kinds, 0, kinds, 0, kinds.length);
            nodes = picture.nodes;
            for (int k = nodes - 1; k >= 0; k--) {
                if (isVote(k)) {
                    sizes[k] = 1 + sizes[first(k)] + sizes[second(k)];
                    motionsOf[k] = motionsOf[first(k)] | motionsOf[second(k)];
                } else {
                    sizes[k] = 1;
                    motionsOf[k] = 1 << kinds[k];
                }
            }
        }

        private boolean isVote(int k) {
            return kinds[k] == VOTE;
        }

        private int first(int vote) {
            return vote + 1;
        }

        private int second(int vote) {
            return vote + 1 + sizes[vote + 1];
        }

        private boolean votesFirst(int vote, int[] ranked, int from, int motions) {
            return likesFirst(ranked, from, motions, motionsOf[first(vote)], motionsOf[second(vote)]);
        }
    }

    /** Who votes how, as sets of members (bits), so that who is away is left out by one mask. */
    private static final class Ballots {
        /** Of each vote: the members that vote for its first branch, sincere. */
        private final int[] forFirst = new int[MOST_NODES];
        /** Of motions a, b (at a * MOST_MOTIONS + b): the members that rank a higher. */
        private final int[] above = new int[MOST_MOTIONS * MOST_MOTIONS];
        private final int[] comesOf = new int[MOST_NODES];

        private void castAll(Tree tree, Picture picture) {
            Arrays.fill(forFirst, 0);
            Arrays.fill(above, 0);
            for (int member = 0; member < picture.members; member++) {
                cast(tree, picture.ranked, member * MOST_MOTIONS, picture.motions, 1 << member);
            }
        }

        /** A member (its bit) votes by the ranking that begins there, and no more as it did. */
        private void cast(Tree tree, int[] ranked, int from, int motions, int member) {
            castSincere(tree, ranked, from, motions, member);
            castAbove(ranked, from, motions, member);
        }

        private void castSincere(Tree tree, int[] ranked, int from, int motions, int member) {
            for (int k = 0; k < tree.nodes; k++) {
                if (tree.isVote(k) && tree.votesFirst(k, ranked, from, motions)) {
                    forFirst[k] |= member;
                } else {
                    forFirst[k] &= ~member;
                }
            }
        }

        private void castAbove(int[] ranked, int from, int motions, int member) {
            for (int place = 0; place < motions; place++) {
                for (int later = place + 1; later < motions; later++) {
                    int higher = ranked[from + place];
                    int lower = ranked[from + later];
                    above[higher * MOST_MOTIONS + lower] |= member;
                    above[lower * MOST_MOTIONS + higher] &= ~member;
                }
            }
        }

        private void copy(Ballots other) {
            System.arraycopy(other.forFirst, 0, forFirst, 0, forFirst.length);
            System.arraycopy(other.above, 0, above, 0, above.length);
        }

        /** Some members vote as in the other ballots, all else as in these. */
        private void mix(Ballots these, Ballots others, int some) {
            for (int k = 0; k < MOST_NODES; k++) {
                forFirst[k] = these.forFirst[k] & ~some | others.forFirst[k] & some;
            }
            for (int pair = 0; pair < MOST_MOTIONS * MOST_MOTIONS; pair++) {
                above[pair] = these.above[pair] & ~some | others.above[pair] & some;
            }
        }

        private boolean beats(int a, int b, int present) {
            int forA = Integer.bitCount(above[a * MOST_MOTIONS + b] & present);
            int forB = Integer.bitCount(present) - forA;
            return forA > forB || forA == forB && a < b;
        }

        private int stronger(int a, int b, int present) {
            return a == b || beats(a, b, present) ? a : b;
        }

        private int outcome(Tree tree, int way, int present) {
            return way == SINCERE ? sincere(tree, 0, present) : foreseen(tree, 0, present);
        }

        private int sincere(Tree tree, int from, int present) {
            int all = Integer.bitCount(present);
            int k = from;
            for (int step = 0; step < MOST_NODES && tree.isVote(k); step++) {
                int forIt = Integer.bitCount(forFirst[k] & present);
                k = forIt >= all - forIt ? tree.first(k) : tree.second(k);
            }
            return tree.kinds[k];
        }

        private int foreseen(Tree tree, int from, int present) {
            int end = from + tree.sizes[from];
            for (int k = end - 1; k >= from; k--) {
                comesOf[k] = tree.isVote(k)
                    ? stronger(comesOf[tree.first(k)], comesOf[tree.second(k)], present)
                    : tree.kinds[k];
            }
            return comesOf[from];
        }
    }

    /** What was seen of a member whose ranking is not known. */
    private static final class Sightings {
        private final int[] firsts = new int[MOST_SEEN];
        private final int[] seconds = new int[MOST_SEEN];
        private final int[] branches = new int[MOST_SEEN];
        private int size = 0;

        private void add(int first, int second, int branch) {
            if (size < MOST_SEEN) {
                firsts[size] = first;
                seconds[size] = second;
                branches[size] = branch;
                size++;
            }
        }

        private boolean agree(int[] ranked, int motions) {
            for (int i = 0; i < size; i++) {
                if (likesFirst(ranked, 0, motions, firsts[i], seconds[i]) != (branches[i] == 0)) {
                    return false;
                }
            }
            return true;
        }
    }

    /** Is read into a picture of its own, so that a fault leaves the desk as it is. */
    private static final class Text {
        private static final int END = -1;
        private static final int NUMBER = '0';
        /** Stands for every number that no item may have. */
        private static final int NO_NUMBER = 100;

        private final int[] letters = new int[MOST_LETTERS];
        private final Picture told = new Picture();
        private int length = 0;
        private int at = 0;
        /** The latest token: what it is, the place of its first letter, a number's value. */
        private int sign = END;
        private int signAt = 0;
        private int number = 0;

        private void append(int letter) {
            if (length < MOST_LETTERS) {
                letters[length] = letter;
                length++;
            }
        }

        /** How many items; below 0 if the latest token is the fault. An agenda not told has no nodes. */
        private int read() {
            at = 0;
            told.empty(USUAL_MOTIONS);
            for (int items = 0; items <= MOST_LETTERS; items++) {
                take();
                if (sign == END) {
                    return items;
                }
                if (!readItem(items)) {
                    return -1;
                }
                take();
                if (sign != ';') {
                    return -1;
                }
            }
            return -1;
        }

        private boolean readItem(int itemsAhead) {
            switch (sign) {
                case 'n':
                    return itemsAhead == 0 && readMotions();
                case 'r':
                    return told.members < MOST_MEMBERS && readRanking();
                case 'g':
                    return told.nodes == 0 && readBranch();
                default:
                    return false;
            }
        }

        private boolean readMotions() {
            take();
            if (sign != NUMBER || number < LEAST_MOTIONS || number > MOST_MOTIONS) {
                return false;
            }
            told.motions = number;
            return true;
        }

        private boolean readRanking() {
            int used = 0;
            for (int place = 0; place < told.motions; place++) {
                take();
                int motion = motionOfSign();
                if (motion == NONE || (used >> motion & 1) == 1) {
                    return false;
                }
                used |= 1 << motion;
                told.ranked[told.members * MOST_MOTIONS + place] = motion;
            }
            told.members++;
            return true;
        }

        /** A level adds a node before it goes deeper, so the nodes' limit is the depth's, too. */
        private boolean readBranch() {
            take();
            if (told.nodes >= MOST_TOLD_NODES) {
                return false;
            }
            int motion = motionOfSign();
            if (motion != NONE) {
                told.addNode(motion);
                return true;
            }
            if (sign != '(') {
                return false;
            }
            told.addNode(VOTE);
            if (!readBranch() || !readBranch()) {
                return false;
            }
            take();
            return sign == ')';
        }

        private int motionOfSign() {
            return within(sign - 'a', told.motions) ? sign - 'a' : NONE;
        }

        /** Goes on to the next token. */
        private void take() {
            while (at < length && letters[at] == ' ') {
                at++;
            }
            signAt = at;
            if (at >= length) {
                sign = END;
            } else if (isDigit(letters[at])) {
                sign = NUMBER;
                takeNumber();
            } else {
                sign = letters[at];
                at++;
            }
        }

        private void takeNumber() {
            number = 0;
            boolean zeroAhead = false;
            while (at < length && isDigit(letters[at])) {
                zeroAhead = zeroAhead || at > signAt && number == 0;
                number = Math.min(number * 10 + letters[at] - '0', NO_NUMBER);
                at++;
            }
            if (zeroAhead) {
                number = NO_NUMBER;
            }
        }

        private static boolean isDigit(int letter) {
            return letter >= '0' && letter <= '9';
        }
    }
}
