/** Who pays whom between networks, told from the ways that were seen between them. */
public final class HillWays {
    public static final int NONE = -1, UNKNOWN = -1001, OUTSIDE = -1002, STATE = -1003, FULL = -1004;

    private static final int NETS = 8, MOST_WAYS = 12, SHORTEST = 2, LONGEST = 6;
    private static final int LEAST_CODE = 32, GREATEST_CODE = 126;
    private static final int PAYS = 1, IS_PAID = 2, PEERS = 3, SIBLINGS = 4;

    private final Page page;
    private final Ways ways;
    private final Links links;
    private final Order order;
    private final Names names;
    private final Rows rows;
    private final int[] told;
    private int exchanges;
    private int readings;

    public HillWays() {
        page = new Page();
        ways = new Ways();
        links = new Links();
        order = new Order();
        names = new Names();
        rows = new Rows();
        told = new int[NETS * NETS];
        exchanges = 0;
        readings = 0;
        refresh();
    }

    // ---- texts

    public int letter(int code) {
        if (code < LEAST_CODE || code > GREATEST_CODE) {
            return OUTSIDE;
        }
        if (page.size >= LONGEST) {
            return FULL;
        }
        page.append(code);
        return page.size;
    }

    public int blank() {
        int had = page.size;
        page.size = 0;
        return had;
    }

    public int fault() {
        return page.firstFault();
    }

    public int way() {
        if (!page.isWay()) {
            return STATE;
        }
        if (ways.count >= MOST_WAYS) {
            return FULL;
        }
        ways.add(page);
        page.size = 0;
        readings++;
        refresh();
        return ways.count - 1;
    }

    public int valley() {
        return page.isWay() ? names.firstValley(page.nets, 0, page.size) : STATE;
    }

    // ---- what is told

    public int drop(int way) {
        if (!ways.has(way)) {
            return UNKNOWN;
        }
        ways.remove(way);
        refresh();
        return ways.count;
    }

    public int exchange(int net, boolean is) {
        if (!Bits.isNet(net)) {
            return UNKNOWN;
        }
        int was = Bits.at(exchanges, net);
        exchanges = is ? exchanges | 1 << net : exchanges & ~(1 << net);
        refresh();
        return was;
    }

    public int tell(int a, int b, int name) {
        if (!arePair(a, b)) {
            return UNKNOWN;
        }
        if (name < 0 || name > SIBLINGS) {
            return OUTSIDE;
        }
        int was = told[a * NETS + b];
        told[a * NETS + b] = name;
        told[b * NETS + a] = Names.turned(name);
        return was;
    }

    // ---- nets

    public int net(int net, int what) {
        if (!Bits.isNet(net)) {
            return UNKNOWN;
        }
        switch (what) {
            case 0: return links.degree[net];
            case 1: return links.transit[net];
            case 2: return order.placeOf[net];
            case 3: return Bits.at(order.top, net);
            case 4: return names.cone(net);
            case 5: return Bits.at(exchanges, net);
            default: return OUTSIDE;
        }
    }

    public int rank(int place) {
        return place >= 0 && place < order.size ? order.netAt[place] : NONE;
    }

    public int top() {
        return order.top;
    }

    // ---- links, ways

    public int link(int a, int b, int what) {
        if (!arePair(a, b)) {
            return UNKNOWN;
        }
        switch (what) {
            case 0: return names.name[a * NETS + b];
            case 1: return names.votes[a * NETS + b];
            case 2: return names.votes[b * NETS + a];
            case 3: return links.inWays[a * NETS + b];
            case 4: return told[a * NETS + b];
            default: return OUTSIDE;
        }
    }

    public int contradicted(int place) {
        return place < 0 ? NONE : names.contradictedAt(place);
    }

    public int seen(int way, int what) {
        if (!ways.has(way)) {
            return UNKNOWN;
        }
        int size = ways.cutSizes[way];
        int start = way * LONGEST;
        switch (what) {
            case 0: return size;
            case 1: return order.firstOf(ways.cut, start, size);
            case 2: return names.firstValley(ways.cut, start, size);
            default: break;
        }
        int place = what - 10;
        if (what < 10 || place >= LONGEST) {
            return OUTSIDE;
        }
        return place < size ? ways.cut[start + place] : NONE;
    }

    public int near(int a, int b, int what) {
        if (!Bits.isNet(a) || !Bits.isNet(b)) {
            return UNKNOWN;
        }
        switch (what) {
            case 0: return rows.fewestLinks(Names.UPWARD, a, b);
            case 1: return rows.leastSecond(names, a, b);
            default: return OUTSIDE;
        }
    }

    // ---- what is told of all

    public int count(int what) {
        switch (what) {
            case 0: return ways.count;
            case 1: return links.total();
            case 2: return names.named(PAYS) + names.named(IS_PAID);
            case 3: return names.named(PEERS);
            case 4: return names.named(SIBLINGS);
            case 5: return names.contradictions();
            case 6: return waysWithValley();
            case 7: return toldLinks(true);
            case 8: return toldLinks(false);
            case 9: return page.size;
            case 10: return exchanges;
            case 11: return readings;
            default: return OUTSIDE;
        }
    }

    public long digest() {
        long h = digestOfNets(1747L);
        h = digestOfPairs(h);
        return digestOfTheRest(h);
    }

    // ---- what the calls share

    private void refresh() {
        ways.cutOut(exchanges);
        links.read(ways);
        order.read(links);
        names.read(ways, links, order);
        rows.read(names, links.seenNets);
    }

    private static boolean arePair(int a, int b) {
        return Bits.isNet(a) && Bits.isNet(b) && a != b;
    }

    private int waysWithValley() {
        int found = 0;
        for (int way = 0; way < ways.count; way++) {
            if (names.firstValley(ways.cut, way * LONGEST, ways.cutSizes[way]) != NONE) {
                found++;
            }
        }
        return found;
    }

    private int toldLinks(boolean right) {
        int found = 0;
        for (int a = 0; a < NETS; a++) {
            for (int b = a + 1; b < NETS; b++) {
                int name = names.name[a * NETS + b];
                int truth = told[a * NETS + b];
                if (name != 0 && truth != 0 && (truth == name) == right) {
                    found++;
                }
            }
        }
        return found;
    }

    private long digestOfNets(long start) {
        long h = start;
        for (int net = 0; net < NETS; net++) {
            for (int what = 0; what <= 5; what++) {
                h = 31L * h + net(net, what);
            }
        }
        for (int place = 0; place < NETS; place++) {
            h = 31L * h + rank(place);
        }
        return 31L * h + top();
    }

    private long digestOfPairs(long start) {
        long h = start;
        for (int a = 0; a < NETS; a++) {
            for (int b = a + 1; b < NETS; b++) {
                for (int what = 0; what <= 4; what++) {
                    h = 31L * h + link(a, b, what);
                }
            }
        }
        for (int a = 0; a < NETS; a++) {
            for (int b = 0; b < NETS; b++) {
                h = 31L * h + near(a, b, 0);
            }
        }
        return h;
    }

    private long digestOfTheRest(long start) {
        long h = start;
        for (int place = 0; place <= 3; place++) {
            h = 31L * h + contradicted(place);
        }
        for (int way = 0; way < ways.count; way++) {
            for (int what = 0; what <= 2; what++) {
                h = 31L * h + seen(way, what);
            }
        }
        for (int place = 0; place < page.size; place++) {
            h = 31L * h + page.codeAt(place);
        }
        for (int what = 0; what <= 11; what++) {
            h = 31L * h + count(what);
        }
        return h;
    }

    /** Sets of nets are kept as the bits of one number. */
    private static final class Bits {
        static boolean isNet(int number) {
            return number >= 0 && number < NETS;
        }

        static int at(int bits, int net) {
            return bits >> net & 1;
        }

        static boolean has(int bits, int net) {
            return (bits >> net & 1) == 1;
        }
    }

    /** The text that is being written. */
    private static final class Page {
        private static final int ZERO = '0';

        // A letter that is no figure stands here as a number that is no net.
        final int[] nets;
        int size;

        Page() {
            nets = new int[LONGEST];
            size = 0;
        }

        void append(int code) {
            if (size < LONGEST) {
                nets[size] = code - ZERO;
                size++;
            }
        }

        int codeAt(int place) {
            return place >= 0 && place < size ? nets[place] + ZERO : NONE;
        }

        int firstFault() {
            int met = 0;
            for (int place = 0; place < size; place++) {
                int net = nets[place];
                if (!Bits.isNet(net) || Bits.has(met, net)) {
                    return place;
                }
                met |= 1 << net;
            }
            return size;
        }

        boolean isWay() {
            return size >= SHORTEST && firstFault() == size;
        }
    }

    /** The ways as they were read, and beside them without exchanges; way w starts at w * LONGEST. */
    private static final class Ways {
        final int[] nets;
        final int[] sizes;
        final int[] cut;
        final int[] cutSizes;
        int count;

        Ways() {
            nets = new int[MOST_WAYS * LONGEST];
            sizes = new int[MOST_WAYS];
            cut = new int[MOST_WAYS * LONGEST];
            cutSizes = new int[MOST_WAYS];
            count = 0;
        }

        boolean has(int way) {
            return way >= 0 && way < count;
        }

        void add(Page page) {
            if (count >= MOST_WAYS) {
                return;
            }
            for (int place = 0; place < page.size; place++) {
                nets[count * LONGEST + place] = page.nets[place];
            }
            sizes[count] = page.size;
            count++;
        }

        void remove(int way) {
            if (!has(way)) {
                return;
            }
            for (int next = way + 1; next < count; next++) {
                for (int place = 0; place < sizes[next]; place++) {
                    nets[(next - 1) * LONGEST + place] = nets[next * LONGEST + place];
                }
                sizes[next - 1] = sizes[next];
            }
            count--;
        }

        void cutOut(int exchanges) {
            for (int way = 0; way < count; way++) {
                int kept = 0;
                for (int place = 0; place < sizes[way]; place++) {
                    int net = nets[way * LONGEST + place];
                    if (!Bits.has(exchanges, net)) {
                        cut[way * LONGEST + kept] = net;
                        kept++;
                    }
                }
                cutSizes[way] = kept;
            }
        }
    }

    /** Which nets stand beside each other; pair (a, b) is at a * NETS + b. */
    private static final class Links {
        final int[] linked;
        final int[] passed;
        final int[] degree;
        final int[] transit;
        final int[] inWays;
        int seenNets;

        Links() {
            linked = new int[NETS];
            passed = new int[NETS];
            degree = new int[NETS];
            transit = new int[NETS];
            inWays = new int[NETS * NETS];
            seenNets = 0;
        }

        int total() {
            int ends = 0;
            for (int net = 0; net < NETS; net++) {
                ends += degree[net];
            }
            return ends / 2;
        }

        void read(Ways ways) {
            clear();
            for (int way = 0; way < ways.count; way++) {
                readRow(ways.cut, way * LONGEST, ways.cutSizes[way]);
            }
            for (int net = 0; net < NETS; net++) {
                degree[net] = Integer.bitCount(linked[net]);
                transit[net] = Integer.bitCount(passed[net]);
            }
        }

        private void readRow(int[] row, int start, int length) {
            int last = start + length - 1;
            for (int at = start; at <= last; at++) {
                seenNets |= 1 << row[at];
            }
            for (int at = start; at < last; at++) {
                join(row[at], row[at + 1]);
            }
            for (int at = start + 1; at < last; at++) {
                passed[row[at]] |= 1 << row[at - 1] | 1 << row[at + 1];
            }
        }

        private void clear() {
            seenNets = 0;
            for (int net = 0; net < NETS; net++) {
                linked[net] = 0;
                passed[net] = 0;
            }
            for (int pair = 0; pair < NETS * NETS; pair++) {
                inWays[pair] = 0;
            }
        }

        private void join(int a, int b) {
            linked[a] |= 1 << b;
            linked[b] |= 1 << a;
            inWays[a * NETS + b]++;
            inWays[b * NETS + a]++;
        }
    }

    /** RANK and TOP. */
    private static final class Order {
        final int[] netAt;
        final int[] placeOf;
        int size;
        int top;

        Order() {
            netAt = new int[NETS];
            placeOf = new int[NETS];
            size = 0;
            top = 0;
        }

        void read(Links links) {
            size = Integer.bitCount(links.seenNets);
            for (int net = 0; net < NETS; net++) {
                placeOf[net] = Bits.has(links.seenNets, net) ? countAhead(links, net) : NONE;
                if (placeOf[net] != NONE) {
                    netAt[placeOf[net]] = net;
                }
            }
            top = size == 0 ? 0 : bestSet(links, netAt[0]);
        }

        /** The place, from the start, of the net that is first by RANK. */
        int firstOf(int[] row, int start, int length) {
            int best = NONE;
            for (int place = 0; place < length; place++) {
                if (best == NONE || placeOf[row[start + place]] < placeOf[row[start + best]]) {
                    best = place;
                }
            }
            return best;
        }

        private static int countAhead(Links links, int net) {
            int ahead = 0;
            for (int other = 0; other < NETS; other++) {
                if (Bits.has(links.seenNets, other) && isAhead(links, other, net)) {
                    ahead++;
                }
            }
            return ahead;
        }

        private static boolean isAhead(Links links, int a, int b) {
            if (links.transit[a] != links.transit[b]) {
                return links.transit[a] > links.transit[b];
            }
            if (links.degree[a] != links.degree[b]) {
                return links.degree[a] > links.degree[b];
            }
            return a < b;
        }

        private static int bestSet(Links links, int first) {
            int best = 1 << first;
            // Upwards, and only a better set takes over: so of like ones the least stays.
            for (int set = 1; set < 1 << NETS; set++) {
                if (Bits.has(set, first) && isAllLinked(links, set) && isBetter(links, set, best)) {
                    best = set;
                }
            }
            return best;
        }

        private static boolean isAllLinked(Links links, int set) {
            for (int net = 0; net < NETS; net++) {
                int others = set & ~(1 << net);
                if (Bits.has(set, net) && (others & ~links.linked[net]) != 0) {
                    return false;
                }
            }
            return true;
        }

        private static boolean isBetter(Links links, int set, int than) {
            int more = Integer.bitCount(set) - Integer.bitCount(than);
            return more != 0 ? more > 0 : degreeSum(links, set) > degreeSum(links, than);
        }

        private static int degreeSum(Links links, int set) {
            int sum = 0;
            for (int net = 0; net < NETS; net++) {
                sum += Bits.has(set, net) ? links.degree[net] : 0;
            }
            return sum;
        }
    }

    /** VOTES and the NAMES that come of them; pair (a, b) is at a * NETS + b. */
    private static final class Names {
        // A row without a VALLEY goes upward until a LINK of NAME 2 or 3, and downward from there on.
        static final int UPWARD = 0, DOWNWARD = 1;

        final int[] votes;
        final int[] name;
        final int[] payers;

        Names() {
            votes = new int[NETS * NETS];
            name = new int[NETS * NETS];
            payers = new int[NETS];
        }

        void read(Ways ways, Links links, Order order) {
            for (int pair = 0; pair < NETS * NETS; pair++) {
                votes[pair] = 0;
            }
            for (int way = 0; way < ways.count; way++) {
                vote(ways.cut, way * LONGEST, ways.cutSizes[way], order);
            }
            for (int a = 0; a < NETS; a++) {
                payers[a] = 0;
                for (int b = 0; b < NETS; b++) {
                    int given = Bits.has(links.linked[a], b) ? nameOf(a, b, order.top) : 0;
                    name[a * NETS + b] = given;
                    payers[a] |= given == IS_PAID ? 1 << b : 0;
                }
            }
        }

        private void vote(int[] row, int start, int length, Order order) {
            int hill = order.firstOf(row, start, length);
            for (int place = 0; place + 1 < length; place++) {
                int a = row[start + place];
                int b = row[start + place + 1];
                if (Bits.has(order.top, a) && Bits.has(order.top, b)) {
                    continue;
                }
                if (place < hill) {
                    votes[a * NETS + b]++;
                } else {
                    votes[b * NETS + a]++;
                }
            }
        }

        private int nameOf(int a, int b, int top) {
            if (Bits.has(top, a) && Bits.has(top, b)) {
                return PEERS;
            }
            int more = votes[a * NETS + b] - votes[b * NETS + a];
            if (more == 0) {
                return SIBLINGS;
            }
            return more > 0 ? PAYS : IS_PAID;
        }

        /** The NAME of the same LINK, from the other end. */
        static int turned(int name) {
            if (name == PAYS) {
                return IS_PAID;
            }
            return name == IS_PAID ? PAYS : name;
        }

        /** Where a row goes behind a LINK of this name; NONE: it may not take it. */
        static int after(int direction, int name) {
            switch (name) {
                case PAYS: return direction == UPWARD ? UPWARD : NONE;
                case IS_PAID: return DOWNWARD;
                case PEERS: return direction == UPWARD ? DOWNWARD : NONE;
                case SIBLINGS: return direction;
                default: return NONE;
            }
        }

        int firstValley(int[] row, int start, int length) {
            int direction = UPWARD;
            for (int place = 0; place + 1 < length; place++) {
                int pair = row[start + place] * NETS + row[start + place + 1];
                direction = after(direction, name[pair]);
                if (direction == NONE) {
                    return place;
                }
            }
            return NONE;
        }

        int cone(int net) {
            int cone = 1 << net;
            // Until all are there each round brings one more: NETS - 1 rounds bring all.
            for (int round = 1; round < NETS; round++) {
                for (int member = 0; member < NETS; member++) {
                    cone |= Bits.has(cone, member) ? payers[member] : 0;
                }
            }
            return cone;
        }

        /** How many LINKS have this name from the lesser NET to the greater one. */
        int named(int wanted) {
            int found = 0;
            for (int a = 0; a < NETS; a++) {
                for (int b = a + 1; b < NETS; b++) {
                    if (name[a * NETS + b] == wanted) {
                        found++;
                    }
                }
            }
            return found;
        }

        int contradictions() {
            int found = 0;
            for (int a = 0; a < NETS; a++) {
                for (int b = a + 1; b < NETS; b++) {
                    if (lesserVotes(a, b) > 0) {
                        found++;
                    }
                }
            }
            return found;
        }

        int contradictedAt(int wanted) {
            int place = 0;
            // No LINK has more votes than there are ways.
            for (int lesser = MOST_WAYS; lesser > 0; lesser--) {
                for (int a = 0; a < NETS; a++) {
                    for (int b = a + 1; b < NETS; b++) {
                        if (lesserVotes(a, b) != lesser) {
                            continue;
                        }
                        if (place == wanted) {
                            return a * NETS + b;
                        }
                        place++;
                    }
                }
            }
            return NONE;
        }

        private int lesserVotes(int a, int b) {
            return Math.min(votes[a * NETS + b], votes[b * NETS + a]);
        }
    }

    /** Rows without a VALLEY; one that starts at a net in a direction is at direction * NETS + net. */
    private static final class Rows {
        private static final int STARTS = 2 * NETS;

        final int[] fewest;
        final int[] reached;
        final int[] reachedNow;

        Rows() {
            fewest = new int[STARTS * NETS];
            reached = new int[STARTS];
            reachedNow = new int[STARTS];
        }

        void read(Names names, int seenNets) {
            for (int at = 0; at < STARTS * NETS; at++) {
                fewest[at] = NONE;
            }
            for (int start = 0; start < STARTS; start++) {
                reached[start] = 0;
                reachedNow[start] = seenNets & 1 << start % NETS;
            }
            boolean more = settle(0);
            // A shortest row is at no start twice, so it has less LINKS than there are starts.
            for (int length = 1; more && length < STARTS; length++) {
                for (int start = 0; start < STARTS; start++) {
                    reachedNow[start] = reached[start] | reachedByOneMore(names, start);
                }
                more = settle(length);
            }
        }

        private int reachedByOneMore(Names names, int start) {
            int ends = 0;
            for (int second = 0; second < NETS; second++) {
                int direction = Names.after(start / NETS, names.name[start % NETS * NETS + second]);
                if (direction != NONE) {
                    ends |= reached[direction * NETS + second];
                }
            }
            return ends;
        }

        private boolean settle(int length) {
            boolean more = false;
            for (int start = 0; start < STARTS; start++) {
                int fresh = reachedNow[start] & ~reached[start];
                for (int end = 0; end < NETS; end++) {
                    if (Bits.has(fresh, end)) {
                        fewest[start * NETS + end] = length;
                        more = true;
                    }
                }
                reached[start] = reachedNow[start];
            }
            return more;
        }

        int fewestLinks(int direction, int a, int b) {
            return fewest[(direction * NETS + a) * NETS + b];
        }

        int leastSecond(Names names, int a, int b) {
            int links = fewestLinks(Names.UPWARD, a, b);
            if (links == NONE) {
                return NONE;
            }
            for (int second = 0; second < NETS; second++) {
                int direction = Names.after(Names.UPWARD, names.name[a * NETS + second]);
                if (links > 0 && direction != NONE && fewestLinks(direction, second, b) == links - 1) {
                    return second;
                }
            }
            return NONE;
        }
    }
}
