import java.util.Arrays;

/**
 * Nets up to switching: the document's words in capitals (NET, CLASS, KIND ..) are used here as it
 * tells them.
 */
public final class OddNets {
    public static final int UNKNOWN = -1, OUTSIDE = -2, STATE = -3, FULL = -4, NONE = -6, FAULT = -7;
    public static final long GONE = -1000000000000L;

    private static final int SLOTS = 3;
    private static final int IMAGES = 2;
    private static final int LEAST_MANY = 3;
    private static final int FIRST_MANY = 5;
    private static final int MOST_MANY = 7;
    private static final int MOST_SIGNS = 35;
    private static final int LEAST_SIGN = 33;
    private static final int MOST_SIGN = 126;
    private static final int MOST_DEGREE = 6;
    private static final int MOST_ROOT = 9;
    private static final int AS_NET = 0;
    private static final int AS_TRIPLES = 1;
    /** Stands in place of a DEGREE where any even DEGREE will do. */
    private static final int ANY_EVEN = -1;

    private final Shelf now = new Shelf();
    private final Shelf[] images = new Shelf[IMAGES];
    private final Pad pad = new Pad();

    // All that calls reckon in is made once, so that no call makes an object.
    private final Net net = new Net();
    private final Net second = new Net();
    private final Renumbering renumbering = new Renumbering();
    private final Table table = new Table();
    private final int[] marks = new int[SLOTS];

    public OddNets() {
        for (int k = 0; k < IMAGES; k++) {
            images[k] = new Shelf();
        }
        now.clear(FIRST_MANY);
    }

    // ---- 1 nets

    public int nodes(int v) {
        if (!within(v, LEAST_MANY, MOST_MANY)) {
            return OUTSIDE;
        }
        int was = now.many;
        now.clear(v);
        return was;
    }

    public int join(int slot, int one, int other, int is) {
        if (!isSlot(slot) || !isNode(one) || !isNode(other)) {
            return UNKNOWN;
        }
        if (one == other || !within(is, 0, 1)) {
            return OUTSIDE;
        }
        load(net, slot);
        net.connect(one, other, is == 1);
        now.numbers[slot] = net.number();
        return net.joinedPairs();
    }

    public int set(int slot, int number) {
        if (!isSlot(slot)) {
            return UNKNOWN;
        }
        if (!within(number, 0, (1 << pairsOf(now.many)) - 1)) {
            return OUTSIDE;
        }
        int was = now.numbers[slot];
        now.numbers[slot] = number;
        return was;
    }

    public int say(int sign) {
        if (!within(sign, LEAST_SIGN, MOST_SIGN)) {
            return OUTSIDE;
        }
        if (pad.size >= MOST_SIGNS) {
            return FULL;
        }
        pad.put(sign);
        return pad.size;
    }

    public int wipe() {
        int had = pad.size;
        pad.size = 0;
        return had;
    }

    public int fault(int how) {
        if (!within(how, AS_NET, AS_TRIPLES)) {
            return OUTSIDE;
        }
        return pad.faultFor(signsFor(how));
    }

    public int read(int slot, int how) {
        if (!isSlot(slot)) {
            return UNKNOWN;
        }
        if (!within(how, AS_NET, AS_TRIPLES)) {
            return OUTSIDE;
        }
        if (pad.faultFor(signsFor(how)) != NONE) {
            return FAULT;
        }
        net.clear(now.many);
        if (how == AS_NET) {
            net.takePairs(pad);
        } else if (!net.takeTriples(pad)) {
            return STATE;
        }
        pad.size = 0;
        now.numbers[slot] = net.number();
        return now.numbers[slot];
    }

    public int turn(int to, int from, int set) {
        if (!isSlot(to) || !isSlot(from)) {
            return UNKNOWN;
        }
        if (!within(set, 0, (1 << now.many) - 1)) {
            return OUTSIDE;
        }
        load(net, from);
        net.switchBy(set);
        now.numbers[to] = net.number();
        return now.numbers[to];
    }

    public int of(int slot, int what) {
        if (!isSlot(slot)) {
            return UNKNOWN;
        }
        load(net, slot);
        switch (what) {
            case 0: return now.numbers[slot];
            case 1: return net.joinedPairs();
            case 2: return net.oddTriples();
            case 3: return net.oddTriplesOfEachPair();
            case 4: return net.oddDegrees();
            default: return OUTSIDE;
        }
    }

    public int node(int slot, int node, int what) {
        if (!isSlot(slot) || !isNode(node)) {
            return UNKNOWN;
        }
        load(net, slot);
        switch (what) {
            case 0: return net.degree(node);
            case 1: return net.oddTriplesAtNode(node);
            case 2:
                net.leaveAlone(node);
                return net.number();
            case 3:
                net.leaveAlone(node);
                net.drop(node);
                return net.number();
            default: return OUTSIDE;
        }
    }

    public int pair(int slot, int one, int other, int what) {
        if (!isSlot(slot) || !isNode(one) || !isNode(other)) {
            return UNKNOWN;
        }
        if (one == other) {
            return OUTSIDE;
        }
        load(net, slot);
        switch (what) {
            case 0: return net.joined(one, other);
            case 1: return net.oddTriplesAtPair(one, other);
            case 2: return net.shared(one, other);
            default: return OUTSIDE;
        }
    }

    // ---- 2 classes

    public int fewest(int slot, int what) {
        if (!isSlot(slot)) {
            return UNKNOWN;
        }
        if (!within(what, 0, 2)) {
            return OUTSIDE;
        }
        load(net, slot);
        int fewestPairs = pairsOf(now.many) + 1;
        int leastSet = 0;
        int howMany = 0;
        for (int set = 0; set < 1 << now.many; set += 2) {
            second.copySwitched(net, set);
            int pairs = second.joinedPairs();
            if (pairs < fewestPairs) {
                fewestPairs = pairs;
                leastSet = set;
                howMany = 0;
            }
            if (pairs == fewestPairs) {
                howMany++;
            }
        }
        return what == 0 ? fewestPairs : what == 1 ? leastSet : howMany;
    }

    public int even(int slot, int what) {
        if (!isSlot(slot)) {
            return UNKNOWN;
        }
        if (!within(what, 0, 1)) {
            return OUTSIDE;
        }
        load(net, slot);
        return what == 0 ? howManyBy(ANY_EVEN, false) : leastSetBy(ANY_EVEN);
    }

    public int by(int slot, int k, int what) {
        if (!isSlot(slot)) {
            return UNKNOWN;
        }
        if (!within(k, 0, MOST_DEGREE) || !within(what, 0, 2)) {
            return OUTSIDE;
        }
        load(net, slot);
        return what == 1 ? leastSetBy(k) : howManyBy(k, what == 2);
    }

    // ---- 3 kinds

    public int compare(int one, int other, int what) {
        if (!isSlot(one) || !isSlot(other)) {
            return UNKNOWN;
        }
        switch (what) {
            case 0: return bringingSet(one, other) == NONE ? 0 : 1;
            case 1: return bringingSet(one, other);
            case 2:
                load(net, one);
                load(second, other);
                return renumbering.brings(net, second) ? 1 : 0;
            case 3: return kindOfSlot(one) == kindOfSlot(other) ? 1 : 0;
            default: return OUTSIDE;
        }
    }

    public int kind(int slot, int what) {
        if (!isSlot(slot)) {
            return UNKNOWN;
        }
        switch (what) {
            case 0: return kindOfSlot(slot);
            case 1:
                load(net, slot);
                return renumbering.keepersOfClass(net, second);
            case 2:
                load(net, slot);
                return renumbering.keepersOfNet(net, 0);
            default: return OUTSIDE;
        }
    }

    public int card(int slot, int node) {
        if (!isSlot(slot) || !isNode(node)) {
            return UNKNOWN;
        }
        if (now.many <= LEAST_MANY) {
            return STATE;
        }
        load(net, slot);
        net.drop(node);
        return renumbering.kindOfClass(net);
    }

    public long root(int slot, int v, int what) {
        if (!isSlot(slot)) {
            return GONE + UNKNOWN;
        }
        if (!within(v, -MOST_ROOT, MOST_ROOT) || !within(what, 0, 1)) {
            return GONE + OUTSIDE;
        }
        load(net, slot);
        table.fill(net, v);
        table.eliminate();
        return what == 0 ? table.determinant() : now.many - table.rank;
    }

    // ---- 4 images

    public int image(int k) {
        if (!within(k, 0, IMAGES - 1)) {
            return OUTSIDE;
        }
        images[k].copy(now);
        return 1;
    }

    public int restore(int k) {
        if (!within(k, 0, IMAGES - 1)) {
            return OUTSIDE;
        }
        if (images[k].isUnused()) {
            return STATE;
        }
        now.copy(images[k]);
        return 1;
    }

    public int count(int what) {
        switch (what) {
            case 0: return now.many;
            case 1: return pairsOf(now.many);
            case 2: return triplesOf(now.many);
            case 3: return pad.size;
            case 4: return differentClasses();
            case 5: return differentKinds();
            case 6: return keptImages();
            default: return OUTSIDE;
        }
    }

    // ---- what calls share

    private static boolean within(int value, int least, int most) {
        return value >= least && value <= most;
    }

    private static int pairsOf(int many) {
        return many * (many - 1) / 2;
    }

    private static int triplesOf(int many) {
        return many * (many - 1) * (many - 2) / 6;
    }

    private static boolean isSlot(int slot) {
        return within(slot, 0, SLOTS - 1);
    }

    private boolean isNode(int node) {
        return within(node, 0, now.many - 1);
    }

    private int signsFor(int how) {
        return how == AS_NET ? pairsOf(now.many) : triplesOf(now.many);
    }

    private void load(Net into, int slot) {
        into.clear(now.many);
        into.takeNumber(now.numbers[slot]);
    }

    /** How many NETS of the CLASS of net have each DEGREE as told, all of them or STRONG ones. */
    private int howManyBy(int degree, boolean strongOnly) {
        int howMany = 0;
        for (int set = 0; set < 1 << net.many; set += 2) {
            second.copySwitched(net, set);
            if (second.eachDegreeIs(degree) && (!strongOnly || second.isStrong())) {
                howMany++;
            }
        }
        return howMany;
    }

    /** The least set, without NODE 0, by which a NET comes of net that has each DEGREE as told. */
    private int leastSetBy(int degree) {
        for (int set = 0; set < 1 << net.many; set += 2) {
            second.copySwitched(net, set);
            if (second.eachDegreeIs(degree)) {
                return set;
            }
        }
        return NONE;
    }

    /** Only the NODES whose PAIR with NODE 0 differs can be in the set, as NODE 0 is not. */
    private int bringingSet(int one, int other) {
        load(net, one);
        load(second, other);
        int set = net.rows[0] ^ second.rows[0];
        net.switchBy(set);
        return net.number() == second.number() ? set : NONE;
    }

    private int kindOfSlot(int slot) {
        load(net, slot);
        return renumbering.kindOfClass(net);
    }

    private int differentClasses() {
        for (int slot = 0; slot < SLOTS; slot++) {
            load(net, slot);
            net.leaveAlone(0);
            marks[slot] = net.number();
        }
        return differentMarks();
    }

    private int differentKinds() {
        for (int slot = 0; slot < SLOTS; slot++) {
            marks[slot] = kindOfSlot(slot);
        }
        return differentMarks();
    }

    private int differentMarks() {
        int different = 0;
        for (int slot = 0; slot < SLOTS; slot++) {
            if (!isMarkedBefore(slot)) {
                different++;
            }
        }
        return different;
    }

    private boolean isMarkedBefore(int slot) {
        for (int before = 0; before < slot; before++) {
            if (marks[before] == marks[slot]) {
                return true;
            }
        }
        return false;
    }

    private int keptImages() {
        int kept = 0;
        for (int k = 0; k < IMAGES; k++) {
            if (!images[k].isUnused()) {
                kept |= 1 << k;
            }
        }
        return kept;
    }

    /** MANY and the NUMBERS that SLOTS hold: all that an IMAGE keeps. */
    private static final class Shelf {
        private int many = 0;
        private final int[] numbers = new int[SLOTS];

        private void clear(int newMany) {
            many = newMany;
            Arrays.fill(numbers, 0);
        }

        private void copy(Shelf from) {
            many = from.many;
            System.arraycopy(from.numbers, 0, numbers, 0, SLOTS);
        }

        private boolean isUnused() {
            return many == 0;
        }
    }

    private static final class Pad {
        private int size = 0;
        private final int[] signs = new int[MOST_SIGNS];

        private void put(int sign) {
            if (size < MOST_SIGNS) {
                signs[size] = sign;
                size++;
            }
        }

        private boolean tells(int place) {
            return place >= 0 && place < size && signs[place] == '1';
        }

        private int faultFor(int wanted) {
            for (int place = 0; place < size; place++) {
                if (place >= wanted || signs[place] != '0' && signs[place] != '1') {
                    return place;
                }
            }
            return size < wanted ? size : NONE;
        }
    }

    /** A NET to reckon with: for each NODE the set of those to which it is JOINED. */
    private static final class Net {
        private int many = 0;
        private final int[] rows = new int[MOST_MANY];

        private void clear(int newMany) {
            many = newMany;
            Arrays.fill(rows, 0);
        }

        private void connect(int one, int other, boolean is) {
            if (is) {
                rows[one] |= 1 << other;
                rows[other] |= 1 << one;
            } else {
                rows[one] &= ~(1 << other);
                rows[other] &= ~(1 << one);
            }
        }

        private void takeNumber(int number) {
            int place = pairsOf(many);
            for (int one = 0; one < many; one++) {
                for (int other = one + 1; other < many; other++) {
                    place--;
                    connect(one, other, (number >> place & 1) == 1);
                }
            }
        }

        private void takePairs(Pad pad) {
            int place = 0;
            for (int one = 0; one < many; one++) {
                for (int other = one + 1; other < many; other++) {
                    connect(one, other, pad.tells(place));
                    place++;
                }
            }
        }

        /**
         * TRIPLES with NODE 0 come first and make the NET in which it is ALONE; told TRIPLES FIT just
         * if all others are ODD there as told. Answers whether they do.
         */
        private boolean takeTriples(Pad pad) {
            int place = 0;
            for (int one = 0; one < many; one++) {
                for (int other = one + 1; other < many; other++) {
                    for (int third = other + 1; third < many; third++) {
                        boolean told = pad.tells(place);
                        if (one == 0) {
                            connect(other, third, told);
                        } else if (isOdd(one, other, third) != told) {
                            return false;
                        }
                        place++;
                    }
                }
            }
            return true;
        }

        private void copySwitched(Net from, int set) {
            many = from.many;
            System.arraycopy(from.rows, 0, rows, 0, MOST_MANY);
            switchBy(set);
        }

        private void switchBy(int set) {
            int rest = allNodes() & ~set;
            for (int node = 0; node < many; node++) {
                rows[node] ^= (set >> node & 1) == 1 ? rest : set;
            }
        }

        private void leaveAlone(int node) {
            switchBy(rows[node]);
        }

        /** The NET becomes that WITHOUT a NODE. */
        private void drop(int node) {
            int before = (1 << node) - 1;
            for (int k = node; k < many - 1; k++) {
                rows[k] = rows[k + 1];
            }
            many--;
            for (int k = 0; k < many; k++) {
                rows[k] = rows[k] & before | rows[k] >> 1 & ~before;
            }
        }

        private int allNodes() {
            return (1 << many) - 1;
        }

        private int number() {
            int number = 0;
            for (int one = 0; one < many; one++) {
                for (int other = one + 1; other < many; other++) {
                    number = number << 1 | joined(one, other);
                }
            }
            return number;
        }

        private int joined(int one, int other) {
            return rows[one] >> other & 1;
        }

        private int degree(int node) {
            return Integer.bitCount(rows[node]);
        }

        private int shared(int one, int other) {
            return Integer.bitCount(rows[one] & rows[other]);
        }

        private int joinedPairs() {
            int ends = 0;
            for (int node = 0; node < many; node++) {
                ends += degree(node);
            }
            return ends / 2;
        }

        private boolean isOdd(int one, int other, int third) {
            return (joined(one, other) ^ joined(one, third) ^ joined(other, third)) == 1;
        }

        private int oddTriplesAtPair(int one, int other) {
            int thirds = rows[one] ^ rows[other];
            if (joined(one, other) == 1) {
                thirds = ~thirds;
            }
            return Integer.bitCount(thirds & allNodes() & ~(1 << one | 1 << other));
        }

        /** Each TRIPLE of the NODE has two PAIRS with it. */
        private int oddTriplesAtNode(int node) {
            int found = 0;
            for (int other = 0; other < many; other++) {
                if (other != node) {
                    found += oddTriplesAtPair(node, other);
                }
            }
            return found / 2;
        }

        private int oddTriples() {
            int found = 0;
            for (int node = 0; node < many; node++) {
                found += oddTriplesAtNode(node);
            }
            return found / 3;
        }

        private int oddTriplesOfEachPair() {
            int each = oddTriplesAtPair(0, 1);
            for (int one = 0; one < many; one++) {
                for (int other = one + 1; other < many; other++) {
                    if (oddTriplesAtPair(one, other) != each) {
                        return NONE;
                    }
                }
            }
            return each;
        }

        private int oddDegrees() {
            int set = 0;
            for (int node = 0; node < many; node++) {
                set |= (degree(node) & 1) << node;
            }
            return set;
        }

        private boolean eachDegreeIs(int degree) {
            if (degree == ANY_EVEN) {
                return oddDegrees() == 0;
            }
            for (int node = 0; node < many; node++) {
                if (degree(node) != degree) {
                    return false;
                }
            }
            return true;
        }

        private boolean isStrong() {
            return eachPairSharesAlike(1) && eachPairSharesAlike(0);
        }

        /** Whether all PAIRS that are JOINED (1), or all that are not (0), share as many NODES. */
        private boolean eachPairSharesAlike(int is) {
            int alike = NONE;
            for (int one = 0; one < many; one++) {
                for (int other = one + 1; other < many; other++) {
                    if (joined(one, other) == is) {
                        int found = shared(one, other);
                        if (alike != NONE && alike != found) {
                            return false;
                        }
                        alike = found;
                    }
                }
            }
            return true;
        }

        /** Whether the NET stays as it is when two NODES change their numbers. */
        private boolean areTwins(int one, int other) {
            return ((rows[one] ^ rows[other]) & ~(1 << one | 1 << other)) == 0;
        }
    }

    /** Searches among RENUMBERINGS, number by number. */
    private static final class Renumbering {
        private final int[] at = new int[MOST_MANY];

        /** KIND of the CLASS of a NET; the NET is another one of the CLASS afterwards. */
        private int kindOfClass(Net net) {
            int least = (1 << pairsOf(net.many)) - 1;
            for (int first = 0; first < net.many; first++) {
                net.leaveAlone(first);
                at[0] = first;
                least = Math.min(least, leastNumber(net, at, 1, 1 << first));
            }
            return least;
        }

        /**
         * The least NUMBER, if numbers below k are given to the NODES at them. As the PAIRS of the
         * first numbers weigh most, only a NODE whose column is lowest can get number k; of twins it
         * is enough to try one.
         */
        private static int leastNumber(Net net, int[] at, int k, int given) {
            if (k >= net.many) {
                return numberAsGiven(net, at);
            }
            int lowest = lowestColumn(net, at, k, given);
            int least = (1 << pairsOf(net.many)) - 1;
            int tried = 0;
            for (int node = 0; node < net.many; node++) {
                boolean free = (given >> node & 1) == 0;
                if (free && column(net, at, k, node) == lowest && !hasTwin(net, node, tried)) {
                    tried |= 1 << node;
                    at[k] = node;
                    least = Math.min(least, leastNumber(net, at, k + 1, given | 1 << node));
                }
            }
            return least;
        }

        private static int lowestColumn(Net net, int[] at, int k, int given) {
            int lowest = 1 << MOST_MANY;
            for (int node = 0; node < net.many; node++) {
                if ((given >> node & 1) == 0) {
                    lowest = Math.min(lowest, column(net, at, k, node));
                }
            }
            return lowest;
        }

        /** To which of the NODES with numbers below k a NODE is JOINED, the first number highest. */
        private static int column(Net net, int[] at, int k, int node) {
            int column = 0;
            for (int before = 0; before < k; before++) {
                column = column << 1 | net.rows[at[before]] >> node & 1;
            }
            return column;
        }

        private static boolean hasTwin(Net net, int node, int among) {
            for (int other = 0; other < net.many; other++) {
                if ((among >> other & 1) == 1 && net.areTwins(node, other)) {
                    return true;
                }
            }
            return false;
        }

        private static int numberAsGiven(Net net, int[] at) {
            int number = 0;
            for (int one = 0; one < net.many; one++) {
                for (int other = one + 1; other < net.many; other++) {
                    number = number << 1 | net.joined(at[one], at[other]);
                }
            }
            return number;
        }

        private boolean brings(Net from, Net to) {
            return canGoOn(from, to, at, 0, 0);
        }

        /**
         * NODE 0 can come to those NODES whose ALONE is that of NODE 0, RENUMBERED so; what keeps the
         * CLASS and NODE 0 keeps ALONE of NODE 0. The NETS are others of the CLASS afterwards.
         */
        private int keepersOfClass(Net net, Net other) {
            net.leaveAlone(0);
            int places = 0;
            for (int place = 0; place < net.many; place++) {
                other.copySwitched(net, net.rows[place]);
                at[0] = place;
                if (canGoOn(net, other, at, 1, 1 << place)) {
                    places++;
                }
            }
            return places * keepersOfNet(net, 1);
        }

        /**
         * How many RENUMBERINGS keep the NET and all NODES below first. Of those that keep the NODES
         * below k, as many bring k to one NODE as to any other that it can come to at all: so the
         * numbers of such NODES are multiplied.
         */
        private int keepersOfNet(Net net, int first) {
            for (int k = 0; k < first; k++) {
                at[k] = k;
            }
            int keepers = 1;
            for (int k = first; k < net.many; k++) {
                keepers *= placesOf(net, k);
                at[k] = k;
            }
            return keepers;
        }

        /** To how many NODES k can come, if those below k keep their numbers. */
        private int placesOf(Net net, int k) {
            int below = (1 << k) - 1;
            int places = 0;
            for (int place = k; place < net.many; place++) {
                if (goesTo(net, net, at, k, place)) {
                    at[k] = place;
                    if (canGoOn(net, net, at, k + 1, below | 1 << place)) {
                        places++;
                    }
                }
            }
            return places;
        }

        /** Whether NODES from k on can be placed too, so that one NET comes to the other. */
        private static boolean canGoOn(Net from, Net to, int[] at, int k, int taken) {
            if (k >= from.many) {
                return true;
            }
            for (int place = 0; place < to.many; place++) {
                if ((taken >> place & 1) == 0 && goesTo(from, to, at, k, place)) {
                    at[k] = place;
                    if (canGoOn(from, to, at, k + 1, taken | 1 << place)) {
                        return true;
                    }
                }
            }
            return false;
        }

        /** Whether NODE k of one NET can be this NODE of the other, those below k being placed. */
        private static boolean goesTo(Net from, Net to, int[] at, int k, int place) {
            if (from.degree(k) != to.degree(place)) {
                return false;
            }
            for (int before = 0; before < k; before++) {
                if (from.joined(before, k) != to.joined(at[before], place)) {
                    return false;
                }
            }
            return true;
        }
    }

    /** TABLE of a NET, LESS a number, brought to steps without fractions. */
    private static final class Table {
        private int many = 0;
        private int rank = 0;
        private int sign = 1;
        private long lastPivot = 1;
        private final long[][] cells = new long[MOST_MANY][MOST_MANY];

        private void fill(Net net, int less) {
            many = net.many;
            for (int row = 0; row < many; row++) {
                for (int column = 0; column < many; column++) {
                    cells[row][column] = row == column ? -less : 1 - 2 * net.joined(row, column);
                }
            }
        }

        private void eliminate() {
            rank = 0;
            sign = 1;
            lastPivot = 1;
            for (int column = 0; column < many; column++) {
                int row = pivotRow(column);
                if (row < many) {
                    bringUp(row);
                    clearBelow(column);
                    lastPivot = cells[rank][column];
                    rank++;
                }
            }
        }

        private int pivotRow(int column) {
            int row = rank;
            while (row < many && cells[row][column] == 0) {
                row++;
            }
            return row;
        }

        private void bringUp(int row) {
            if (row == rank) {
                return;
            }
            for (int column = 0; column < many; column++) {
                long kept = cells[rank][column];
                cells[rank][column] = cells[row][column];
                cells[row][column] = kept;
            }
            sign = -sign;
        }

        /** Bareiss: each new number is a minor of the TABLE, so the last pivot divides it evenly. */
        private void clearBelow(int column) {
            if (lastPivot == 0) {
                return;
            }
            long pivot = cells[rank][column];
            for (int row = rank + 1; row < many; row++) {
                long factor = cells[row][column];
                for (int c = column; c < many; c++) {
                    cells[row][c] = (pivot * cells[row][c] - factor * cells[rank][c]) / lastPivot;
                }
            }
        }

        private long determinant() {
            return rank == many ? sign * lastPivot : 0;
        }
    }
}
