/**
 * How a village hangs together. What each call answers stands in the document, promise by promise;
 * this outer class looks at the arguments, refuses what must be refused, and hands on the rest.
 */
public final class HangsTogether {
    private static final int MOST_HOUSES = 7;
    private static final int MOST_LANES = 10;
    /** Every set of lanes as bits: 2 to the power of MOST_LANES. */
    private static final int SETS = 1024;
    /** A way has as many lanes as any other, so there are never more than "5 of 10" of them. */
    private static final int MOST_WAYS = 252;
    private static final int MOST_LETTERS = 72;
    private static final int GREATEST_LETTER = 255;
    private static final int MOST_IN_ROW = 10;
    private static final int MOST_DRAWN = 30;
    private static final int MOST_THAT_DRIFT = 8;
    private static final int MOST_PLAN_HOUSES = 5;
    private static final int MOST_PLAN_LANES = 10;

    private static final int LANE = 0;
    private static final int DOUBLE = 1;
    private static final int TOLL = 2;
    private static final int ONE = 3;
    private static final int SNOWY = 4;
    private static final int WIDE = 5;

    private static final int FREE = 0;
    private static final int MUST = 1;
    private static final int BARRED = 2;

    private static final int NOBODY = -1;
    private static final int OTHER = -2;
    private static final int STATE = -3;
    private static final int BELOW = -4;
    private static final int ROOM = -6;
    private static final int NONE = -9;
    private static final long LONG_REFUSAL = 4000000000000000000L;

    private final Village now;
    private final Village draft;
    private final Village taken;
    private boolean imageTaken;
    private final Letters letters;
    private final Joins joins;
    private final Ways ways;
    private final Forests woods;
    private final Plans plans;
    private final Row toldRow;
    private final Drawers drawers;
    private final int[] refusals;

    public HangsTogether() {
        now = new Village();
        draft = new Village();
        taken = new Village();
        imageTaken = false;
        letters = new Letters();
        joins = new Joins(now);
        ways = new Ways(now, joins);
        woods = new Forests(now, joins);
        plans = new Plans();
        toldRow = new Row(now, joins);
        drawers = new Drawers(now, ways, toldRow);
        refusals = new int[1 - ROOM];
        joins.build();
        ways.list();
    }

    public int feed(int letter) {
        if (letter < 0) {
            return refuse(BELOW);
        }
        if (letter > GREATEST_LETTER || !letters.haveRoom()) {
            return refuse(ROOM);
        }
        return letters.append(letter);
    }

    public int village() {
        draft.copy(now);
        int told = letters.tellTo(draft);
        letters.clear();
        if (told > 0) {
            now.copy(draft);
            lanesChanged();
        }
        return told;
    }

    public int lane(int lane, int what) {
        if (!now.hasLane(lane)) {
            return refuse(NOBODY);
        }
        switch (what) {
            case 0:
                return now.kind[lane];
            case 1:
                return now.from[lane];
            case 2:
                return now.to[lane];
            case 3:
                return now.weight[lane];
            case 4:
                return now.cost[lane];
            case 5:
                return now.drift[lane];
            case 6:
                return now.ruleOf(lane);
            default:
                return refuse(OTHER);
        }
    }

    public int rule(int lane, int as) {
        if (!now.hasLane(lane)) {
            return refuse(NOBODY);
        }
        if (as < FREE || as > BARRED) {
            return refuse(OTHER);
        }
        int was = now.ruleOf(lane);
        now.setRule(lane, as);
        ways.list();
        return was;
    }

    public int takeUp() {
        if (now.lanes == 0) {
            return refuse(STATE);
        }
        now.removeLatest();
        // What the sets without that lane join stays as it was.
        ways.list();
        return now.lanes;
    }

    public int is(int lanes) {
        if (!now.hasAll(lanes)) {
            return refuse(NOBODY);
        }
        return yesNo(joins.isWay(lanes));
    }

    public int hangs(int lanes) {
        if (!now.hasAll(lanes)) {
            return refuse(NOBODY);
        }
        return yesNo(joins.partsLeft(lanes) == 1);
    }

    public int parts(int lanes) {
        if (!now.hasAll(lanes)) {
            return refuse(NOBODY);
        }
        return joins.partsLeft(lanes);
    }

    public int many() {
        return ways.size;
    }

    public long sum() {
        return ways.worthWith(0);
    }

    public int way(int i) {
        if (i < 0) {
            return refuse(BELOW);
        }
        return ways.at(i);
    }

    public long likely(int lane, int part) {
        if (!now.hasLane(lane)) {
            return refuseLong(NOBODY);
        }
        return likelyAll(1 << lane, part);
    }

    public long pair(int one, int other, int part) {
        if (!now.hasLane(one) || !now.hasLane(other)) {
            return refuseLong(NOBODY);
        }
        return likelyAll(1 << one | 1 << other, part);
    }

    public int less(int one, int other) {
        if (!now.hasLane(one) || !now.hasLane(other) || one == other) {
            return refuse(NOBODY);
        }
        if (ways.size == 0) {
            return refuse(STATE);
        }
        long both = ways.worthWith(1 << one | 1 << other) * ways.worthWith(0);
        long apiece = ways.worthWith(1 << one) * ways.worthWith(1 << other);
        if (both == apiece) {
            return 0;
        }
        return both < apiece ? 1 : 2;
    }

    public int inAll() {
        return ways.lanesInAll();
    }

    public int inNone() {
        return ways.lanesInNone();
    }

    public int cheap(int i, int what) {
        if (what != 0 && what != 1) {
            return refuse(OTHER);
        }
        if (i < 0) {
            return refuse(BELOW);
        }
        return what == 0 ? ways.bitsByCost(i) : ways.costByCost(i);
    }

    public int nights(int from, int to) {
        if (!joins.isWay(from) || !joins.isWay(to)) {
            return refuse(STATE);
        }
        return Integer.bitCount(from & ~to);
    }

    public int step(int from, int to) {
        if (!joins.isWay(from) || !joins.isWay(to)) {
            return refuse(STATE);
        }
        return ways.stepBetween(from, to);
    }

    public long toward(int house, int what) {
        if (!now.hasHouse(house)) {
            return refuseLong(NOBODY);
        }
        if (what != 0 && what != 1) {
            return refuseLong(OTHER);
        }
        return what == 0 ? ways.manyToward(house) : ways.worthToward(house);
    }

    public int forests(int k) {
        if (k < 1) {
            return refuse(BELOW);
        }
        if (k > MOST_HOUSES) {
            return refuse(ROOM);
        }
        return woods.manyOf(k);
    }

    public int ploughs(int houses) {
        if (houses == 0 || !now.hasAllHouses(houses)) {
            return refuse(NOBODY);
        }
        return woods.manyWithOneEach(houses);
    }

    public long hard(int from, int to, int part) {
        if (!areTwoHouses(from, to)) {
            return refuseLong(NOBODY);
        }
        if (!isPart(part)) {
            return refuseLong(OTHER);
        }
        long whole = woods.worthOfWhole();
        if (whole == 0) {
            return refuseLong(STATE);
        }
        return leastTerms(woods.worthApart(from, to, 0), whole, part);
    }

    public long more(int one, int other, int part) {
        if (!areTwoHouses(one, other)) {
            return refuseLong(NOBODY);
        }
        if (!isPart(part)) {
            return refuseLong(OTHER);
        }
        if (ways.size == 0) {
            return refuseLong(STATE);
        }
        // A new lane between the two makes a way of each set that leaves just these two apart.
        long was = ways.worthWith(0);
        return leastTerms(was + woods.worthApart(one, other, now.must), was, part);
    }

    public long holds(int part) {
        if (!isPart(part)) {
            return refuseLong(OTHER);
        }
        if (now.lanes - Integer.bitCount(now.barred) > MOST_THAT_DRIFT) {
            return refuseLong(ROOM);
        }
        return leastTerms(woods.chancesToHold(), woods.chancesInAll(), part);
    }

    public int plan(int k, int what) {
        if (what != 0 && what != 1) {
            return refuse(OTHER);
        }
        if (k < 1) {
            return refuse(BELOW);
        }
        if (k > MOST_PLAN_LANES || now.houses > MOST_PLAN_HOUSES || k > pairsOf(now.houses)) {
            return refuse(ROOM);
        }
        plans.makeFor(now.houses);
        return what == 0 ? plans.mostWays(k) : plans.firstSet(k);
    }

    public int draw(int drawer, int z) {
        if (!drawers.isDrawer(drawer)) {
            return refuse(OTHER);
        }
        drawers.begin(z);
        return drawers.makeNext(drawer);
    }

    public int often(int drawer, int lane, int n, int z) {
        if (!drawers.isDrawer(drawer)) {
            return refuse(OTHER);
        }
        if (!now.hasLane(lane)) {
            return refuse(NOBODY);
        }
        if (n < 1) {
            return refuse(BELOW);
        }
        if (n > MOST_DRAWN) {
            return refuse(ROOM);
        }
        drawers.begin(z);
        int had = 0;
        for (int made = 0; made < n; made++) {
            int drawn = drawers.makeNext(drawer);
            if (drawn != NONE && (drawn & 1 << lane) != 0) {
                had++;
            }
        }
        return had;
    }

    public int row(int lane) {
        if (lane < 0) {
            return refuse(BELOW);
        }
        if (lane >= MOST_LANES || !toldRow.hasRoom()) {
            return refuse(ROOM);
        }
        return toldRow.append(lane);
    }

    public int judge() {
        int judged = toldRow.judged();
        toldRow.clear();
        return judged;
    }

    public int image() {
        taken.copy(now);
        imageTaken = true;
        return now.lanes;
    }

    public int restore() {
        if (!imageTaken) {
            return refuse(STATE);
        }
        now.copy(taken);
        lanesChanged();
        return now.lanes;
    }

    public int count(int what) {
        switch (what) {
            case 0:
                return now.houses;
            case 1:
                return now.lanes;
            case 2:
                return Integer.bitCount(now.must);
            case 3:
                return Integer.bitCount(now.barred);
            case 4:
                return now.costOfAll();
            case 5:
                return letters.size;
            case 6:
                return toldRow.size;
            default:
                return refusalsOf(what - 10);
        }
    }

    private int refusalsOf(int which) {
        return which >= 1 && which < refusals.length ? refusals[which] : NONE;
    }

    private int refuse(int number) {
        int which = -number;
        if (which >= 1 && which < refusals.length) {
            refusals[which]++;
        }
        return number;
    }

    private long refuseLong(int number) {
        return LONG_REFUSAL - refuse(number);
    }

    private void lanesChanged() {
        joins.build();
        ways.list();
    }

    private boolean areTwoHouses(int one, int other) {
        return now.hasHouse(one) && now.hasHouse(other) && one != other;
    }

    private long likelyAll(int lanes, int part) {
        if (!isPart(part)) {
            return refuseLong(OTHER);
        }
        if (ways.size == 0) {
            return refuseLong(STATE);
        }
        return leastTerms(ways.worthWith(lanes), ways.worthWith(0), part);
    }

    private static boolean isPart(int part) {
        return part == 0 || part == 1;
    }

    private static int yesNo(boolean yes) {
        return yes ? 1 : 0;
    }

    private static int pairsOf(int houses) {
        return houses * (houses - 1) / 2;
    }

    /** Part 0 is above the line, part 1 below it. */
    private static long leastTerms(long above, long below, int part) {
        long common = commonDivisor(above, below);
        if (common == 0) {
            return 0;
        }
        return part == 0 ? above / common : below / common;
    }

    private static long commonDivisor(long one, long other) {
        long a = one;
        long b = other;
        // Two longs need fewer than a hundred divisions.
        for (int i = 0; i < 200 && b != 0; i++) {
            long rest = a % b;
            a = b;
            b = rest;
        }
        return a;
    }

    /** Houses, lanes and their rules; how they join is not looked at here. */
    private static final class Village {
        private int houses;
        private int lanes;
        /** Which lanes must be kept and which are barred, as bits; the others are free. */
        private int must;
        private int barred;
        private final int[] kind;
        private final int[] from;
        private final int[] to;
        private final int[] weight;
        private final int[] cost;
        private final int[] drift;

        private Village() {
            houses = 3;
            lanes = 0;
            must = 0;
            barred = 0;
            kind = new int[MOST_LANES];
            from = new int[MOST_LANES];
            to = new int[MOST_LANES];
            weight = new int[MOST_LANES];
            cost = new int[MOST_LANES];
            drift = new int[MOST_LANES];
        }

        private void copy(Village other) {
            houses = other.houses;
            lanes = other.lanes;
            must = other.must;
            barred = other.barred;
            for (int i = 0; i < MOST_LANES; i++) {
                kind[i] = other.kind[i];
                from[i] = other.from[i];
                to[i] = other.to[i];
                weight[i] = other.weight[i];
                cost[i] = other.cost[i];
                drift[i] = other.drift[i];
            }
        }

        private boolean hasHouse(int house) {
            return house >= 0 && house < houses;
        }

        private boolean hasAllHouses(int bits) {
            return (bits & ~allHouses()) == 0;
        }

        private int allHouses() {
            return (1 << houses) - 1;
        }

        private boolean hasLane(int lane) {
            return lane >= 0 && lane < lanes && lane < MOST_LANES;
        }

        private boolean hasAll(int bits) {
            return (bits & ~allLanes()) == 0;
        }

        private int allLanes() {
            return (1 << lanes) - 1;
        }

        /** How many sets of lanes there are, the one without any too. */
        private int sets() {
            return 1 << lanes;
        }

        private int ruleOf(int lane) {
            int bit = 1 << lane;
            if ((must & bit) != 0) {
                return MUST;
            }
            return (barred & bit) != 0 ? BARRED : FREE;
        }

        private void setRule(int lane, int as) {
            int bit = 1 << lane;
            must = as == MUST ? must | bit : must & ~bit;
            barred = as == BARRED ? barred | bit : barred & ~bit;
        }

        /** Whether a set of lanes has all that must be kept and none that is barred. */
        private boolean allows(int set) {
            return (set & must) == must && (set & barred) == 0;
        }

        private boolean setHouses(int many) {
            if (many < 2 || many > MOST_HOUSES || many <= farthestHouse()) {
                return false;
            }
            houses = many;
            return true;
        }

        /** The greatest house that a lane tells of; -1 without lanes. */
        private int farthestHouse() {
            int farthest = -1;
            for (int i = 0; i < lanes && i < MOST_LANES; i++) {
                farthest = Math.max(farthest, Math.max(from[i], to[i]));
            }
            return farthest;
        }

        private boolean addLane(int ofKind, int start, int end, int w, int c, int d) {
            if (lanes >= MOST_LANES || ofKind < LANE || ofKind > WIDE || w < 1 || w > 4) {
                return false;
            }
            if (!hasHouse(start) || !hasHouse(end) || start == end) {
                return false;
            }
            kind[lanes] = ofKind;
            from[lanes] = start;
            to[lanes] = end;
            weight[lanes] = weightByKind(ofKind, w);
            cost[lanes] = costByKind(ofKind, c);
            drift[lanes] = driftByKind(ofKind, d);
            lanes++;
            return true;
        }

        private void removeLatest() {
            if (lanes > 0) {
                lanes--;
                setRule(lanes, FREE);
            }
        }

        private int costOfAll() {
            return costOf(allLanes());
        }

        private int costOf(int set) {
            int together = 0;
            for (int i = 0; i < lanes && i < MOST_LANES; i++) {
                if ((set >> i & 1) != 0) {
                    together += cost[i];
                }
            }
            return together;
        }

        private int worthOf(int set) {
            int worth = 1;
            for (int i = 0; i < lanes && i < MOST_LANES; i++) {
                if ((set >> i & 1) != 0) {
                    worth *= weight[i];
                }
            }
            return worth;
        }

        private static int weightByKind(int kind, int w) {
            switch (kind) {
                case DOUBLE:
                    return 2 * w;
                case WIDE:
                    return 2 * w + 1;
                default:
                    return w;
            }
        }

        private static int costByKind(int kind, int c) {
            switch (kind) {
                case TOLL:
                    return c + 10;
                case SNOWY:
                    return 2 * (c + 10);
                case WIDE:
                    return c / 2;
                default:
                    return c;
            }
        }

        private static int driftByKind(int kind, int d) {
            return kind == SNOWY ? Math.min(99, d + 20) : d;
        }
    }

    /** The letters that came, and what village they tell. */
    private static final class Letters {
        /** Where in a statement one is: at its first letter, ahead of a lone digit, ahead of ";". */
        private static final int START = 0;
        private static final int DIGIT = 1;
        private static final int CLOSE = 2;
        /** Ahead of a lane's kind (3), from, to, w, c (7), and of what follows these digits. */
        private static final int KIND = 3;
        private static final int COST_OR_COMMA = 8;
        private static final int COMMA = 9;
        private static final int DRIFT = 10;
        private static final int DRIFT_OR_CLOSE = 11;
        private static final int WRONG = -1;

        private static final int FORM_FAULT = -1000;
        private static final int SENSE_FAULT = -2000;

        private final int[] letter;
        private int size;

        private Letters() {
            letter = new int[MOST_LETTERS];
            size = 0;
        }

        private boolean haveRoom() {
            return size < MOST_LETTERS;
        }

        private int append(int next) {
            if (size < MOST_LETTERS) {
                letter[size] = next;
                size++;
            }
            return size;
        }

        private void clear() {
            size = 0;
        }

        /** How many statements the village has now been told, or the fault. */
        private int tellTo(Village village) {
            int wrong = placeOfWrongForm();
            if (wrong >= 0) {
                return FORM_FAULT - wrong;
            }
            int told = 0;
            int start = 0;
            for (int place = 0; place < size && place < MOST_LETTERS; place++) {
                if (letter[place] == ';') {
                    if (!tellOne(village, start, place)) {
                        return SENSE_FAULT - start;
                    }
                    told++;
                    start = place + 1;
                }
            }
            return told;
        }

        /** The place of the first letter with which no village can go on; -1: there is none. */
        private int placeOfWrongForm() {
            int at = START;
            for (int place = 0; place < size && place < MOST_LETTERS; place++) {
                at = after(at, letter[place]);
                if (at == WRONG) {
                    return place;
                }
            }
            return at == START && size > 0 ? -1 : size;
        }

        private static int after(int at, int letter) {
            switch (at) {
                case START:
                    return afterStart(letter);
                case CLOSE:
                    return letter == ';' ? START : WRONG;
                case COST_OR_COMMA:
                    return isDigit(letter) ? COMMA : afterComma(letter);
                case COMMA:
                    return afterComma(letter);
                case DRIFT_OR_CLOSE:
                    if (letter == ';') {
                        return START;
                    }
                    return isDigit(letter) ? CLOSE : WRONG;
                default:
                    // Wherever just a digit can stand, the next place in the list follows.
                    return isDigit(letter) ? at + 1 : WRONG;
            }
        }

        private static int afterStart(int letter) {
            switch (letter) {
                case 'l':
                    return KIND;
                case 'h':
                case 'k':
                case 'x':
                case 'f':
                    return DIGIT;
                default:
                    return WRONG;
            }
        }

        private static int afterComma(int letter) {
            return letter == ',' ? DRIFT : WRONG;
        }

        private static boolean isDigit(int letter) {
            return letter >= '0' && letter <= '9';
        }

        /** Whether the statement from start to its ";" is as it must be; then the village has it. */
        private boolean tellOne(Village village, int start, int end) {
            int number = number(start + 1, end);
            switch (letterAt(start)) {
                case 'h':
                    return village.setHouses(number);
                case 'k':
                    return tellRule(village, number, MUST);
                case 'x':
                    return tellRule(village, number, BARRED);
                case 'f':
                    return tellRule(village, number, FREE);
                default:
                    return tellLane(village, start, end);
            }
        }

        private static boolean tellRule(Village village, int lane, int as) {
            if (!village.hasLane(lane)) {
                return false;
            }
            village.setRule(lane, as);
            return true;
        }

        private boolean tellLane(Village village, int start, int end) {
            int comma = start + 6;
            if (letterAt(comma) != ',') {
                comma++;
            }
            return village.addLane(digitAt(start + 1), digitAt(start + 2), digitAt(start + 3),
                    digitAt(start + 4), number(start + 5, comma), number(comma + 1, end));
        }

        /** The number that the digits from a place up to another one are; no digits, no more. */
        private int number(int start, int end) {
            int number = 0;
            for (int place = start; place < end && isDigit(letterAt(place)); place++) {
                number = number * 10 + digitAt(place);
            }
            return number;
        }

        private int digitAt(int place) {
            return letterAt(place) - '0';
        }

        private int letterAt(int place) {
            return place >= 0 && place < size && place < MOST_LETTERS ? letter[place] : 0;
        }
    }

    /**
     * For each set of lanes in which parts the houses are by it and whether it has a ring. Rules
     * do not matter to that, so it is built anew only when there are other lanes or houses.
     */
    private static final class Joins {
        /** A state has 3 bits a house (the least house of its part), the ring's bit, the parts. */
        private static final int RING_SHIFT = 21;
        private static final int RING = 1 << RING_SHIFT;
        private static final int PARTS_SHIFT = 22;

        private final Village village;
        private final int[] state;

        private Joins(Village village) {
            this.village = village;
            state = new int[SETS];
        }

        private void build() {
            state[0] = apart(village.houses);
            for (int lane = 0; lane < village.lanes && lane < MOST_LANES; lane++) {
                joinAll(state, lane, village.from[lane], village.to[lane]);
            }
        }

        /** Each set with a lane and only earlier ones comes of the set without that lane. */
        private static void joinAll(int[] states, int lane, int from, int to) {
            int bit = 1 << lane;
            for (int set = 0; set < bit && bit + set < states.length; set++) {
                states[bit + set] = joined(states[set], from, to);
            }
        }

        private static int apart(int houses) {
            int state = houses << PARTS_SHIFT;
            for (int house = 0; house < MOST_HOUSES; house++) {
                state |= house << 3 * house;
            }
            return state;
        }

        private static int joined(int state, int from, int to) {
            int one = partOf(state, from);
            int other = partOf(state, to);
            if (one == other) {
                return state | RING;
            }
            int low = Math.min(one, other);
            int high = Math.max(one, other);
            int joined = state - (1 << PARTS_SHIFT);
            for (int house = high; house < MOST_HOUSES; house++) {
                if (partOf(state, house) == high) {
                    joined -= high - low << 3 * house;
                }
            }
            return joined;
        }

        private static int partOf(int state, int house) {
            return state >> 3 * house & 7;
        }

        /** Whether a state has no ring and so many parts, which stand just above the ring's bit. */
        private static boolean isForest(int state, int parts) {
            return state >> RING_SHIFT == parts << 1;
        }

        private int stateOf(int set) {
            return set >= 0 && set < SETS ? state[set] : RING;
        }

        private int partsLeft(int set) {
            return stateOf(set) >> PARTS_SHIFT;
        }

        private boolean hasRing(int set) {
            return (stateOf(set) & RING) != 0;
        }

        private boolean leavesForest(int set, int parts) {
            return isForest(stateOf(set), parts);
        }

        private boolean areTogether(int set, int one, int other) {
            int of = stateOf(set);
            return partOf(of, one) == partOf(of, other);
        }

        private boolean isWay(int set) {
            return village.hasAll(set) && village.allows(set) && leavesForest(set, 1);
        }

        /** Whether no two of the told houses (bits) are in one part. */
        private boolean areAllApart(int set, int houses) {
            int of = stateOf(set);
            int taken = 0;
            for (int house = 0; house < MOST_HOUSES; house++) {
                if ((houses >> house & 1) != 0) {
                    int bit = 1 << partOf(of, house);
                    if ((taken & bit) != 0) {
                        return false;
                    }
                    taken |= bit;
                }
            }
            return true;
        }
    }

    /** All ways, rising as bits, and what is known of them together. */
    private static final class Ways {
        private final Village village;
        private final Joins joins;
        private int size;
        private final int[] bits;
        private final int[] worth;
        /** Cost times SETS and bits, so that they rise by cost, then by bits. */
        private final int[] keys;
        private boolean sorted;

        private Ways(Village village, Joins joins) {
            this.village = village;
            this.joins = joins;
            size = 0;
            bits = new int[MOST_WAYS];
            worth = new int[MOST_WAYS];
            keys = new int[MOST_WAYS];
            sorted = false;
        }

        private void list() {
            size = 0;
            sorted = false;
            int sets = village.sets();
            for (int set = 0; set < sets && size < MOST_WAYS; set++) {
                if (village.allows(set) && joins.leavesForest(set, 1)) {
                    bits[size] = set;
                    worth[size] = village.worthOf(set);
                    size++;
                }
            }
        }

        private boolean has(int i) {
            return i >= 0 && i < size && i < MOST_WAYS;
        }

        private int at(int i) {
            return has(i) ? bits[i] : NONE;
        }

        /** Copies all ways and their worths into rows of MOST_WAYS: how many. */
        private int copyTo(int[] bitsRow, int[] worthRow) {
            for (int i = 0; i < size && i < bitsRow.length && i < worthRow.length; i++) {
                bitsRow[i] = bits[i];
                worthRow[i] = worth[i];
            }
            return size;
        }

        /** The worths together of the ways that have all of these lanes (bits). */
        private long worthWith(int lanes) {
            long together = 0;
            for (int i = 0; i < size && i < MOST_WAYS; i++) {
                if ((bits[i] & lanes) == lanes) {
                    together += worth[i];
                }
            }
            return together;
        }

        private int lanesInAll() {
            int lanes = size == 0 ? 0 : village.allLanes();
            for (int i = 0; i < size && i < MOST_WAYS; i++) {
                lanes &= bits[i];
            }
            return lanes;
        }

        private int lanesInNone() {
            int lanes = village.allLanes();
            for (int i = 0; i < size && i < MOST_WAYS; i++) {
                lanes &= ~bits[i];
            }
            return lanes;
        }

        private int bitsByCost(int i) {
            sortByCost();
            return has(i) ? keys[i] % SETS : NONE;
        }

        private int costByCost(int i) {
            sortByCost();
            return has(i) ? keys[i] / SETS : NONE;
        }

        private void sortByCost() {
            if (sorted) {
                return;
            }
            for (int i = 0; i < size && i < MOST_WAYS; i++) {
                keys[i] = village.costOf(bits[i]) * SETS + bits[i];
            }
            // Far ones first, so that few moves are left for the neighbours.
            sortEvery(40);
            sortEvery(13);
            sortEvery(4);
            sortEvery(1);
            sorted = true;
        }

        /** Puts the keys that stand so far apart into order, each row of them by itself. */
        private void sortEvery(int gap) {
            if (gap < 1) {
                return;
            }
            for (int i = gap; i < size && i < MOST_WAYS; i++) {
                int key = keys[i];
                int hole = i;
                while (hole >= gap && keys[hole - gap] > key) {
                    keys[hole] = keys[hole - gap];
                    hole -= gap;
                }
                keys[hole] = key;
            }
        }

        /** The way of most cost, of several the least as bits: the first that is dearer than all ahead. */
        private int dearest() {
            sortByCost();
            int dearest = NONE;
            int most = -1;
            for (int i = 0; i < size && i < MOST_WAYS; i++) {
                if (keys[i] / SETS > most) {
                    most = keys[i] / SETS;
                    dearest = keys[i] % SETS;
                }
            }
            return dearest;
        }

        /** The first way, as they rise, that differs by one lane given up and one of the other's. */
        private int stepBetween(int from, int to) {
            for (int i = 0; i < size && i < MOST_WAYS && from != to; i++) {
                int given = from & ~bits[i];
                int taken = bits[i] & ~from;
                if (Integer.bitCount(given) == 1 && (given & to) == 0 && (taken & ~to) == 0) {
                    return bits[i];
                }
            }
            return from;
        }

        private int manyToward(int house) {
            int many = 0;
            for (int i = 0; i < size && i < MOST_WAYS; i++) {
                if (leadsTo(house, bits[i])) {
                    many++;
                }
            }
            return many;
        }

        private long worthToward(int house) {
            long together = 0;
            for (int i = 0; i < size && i < MOST_WAYS; i++) {
                if (leadsTo(house, bits[i])) {
                    together += worth[i];
                }
            }
            return together;
        }

        /**
         * In a way there is just one path from each house to the told one, so only its ONE lanes
         * can hinder: without such a lane its TO must still be together with that house.
         */
        private boolean leadsTo(int house, int way) {
            for (int lane = 0; lane < village.lanes && lane < MOST_LANES; lane++) {
                int without = way & ~(1 << lane);
                if (village.kind[lane] == ONE && without != way
                        && !joins.areTogether(without, village.to[lane], house)) {
                    return false;
                }
            }
            return true;
        }
    }

    /** Sets of lanes that may leave several parts, and how likely the lanes hold. */
    private static final class Forests {
        private final Village village;
        private final Joins joins;

        private Forests(Village village, Joins joins) {
            this.village = village;
            this.joins = joins;
        }

        private int manyOf(int parts) {
            int many = 0;
            int sets = village.sets();
            for (int set = 0; set < sets; set++) {
                if (village.allows(set) && joins.leavesForest(set, parts)) {
                    many++;
                }
            }
            return many;
        }

        private int manyWithOneEach(int houses) {
            int parts = Integer.bitCount(houses);
            int many = 0;
            int sets = village.sets();
            for (int set = 0; set < sets; set++) {
                if (village.allows(set) && joins.leavesForest(set, parts)
                        && joins.areAllApart(set, houses)) {
                    many++;
                }
            }
            return many;
        }

        /** Of the sets without a ring that join all houses; what must be kept does not matter. */
        private long worthOfWhole() {
            long together = 0;
            int sets = village.sets();
            for (int set = 0; set < sets; set++) {
                if (isOpen(set, 0) && joins.leavesForest(set, 1)) {
                    together += village.worthOf(set);
                }
            }
            return together;
        }

        /** Of the sets with these lanes (bits) that leave two parts, one of both houses in each. */
        private long worthApart(int one, int other, int must) {
            long together = 0;
            int sets = village.sets();
            for (int set = 0; set < sets; set++) {
                if (isOpen(set, must) && joins.leavesForest(set, 2)
                        && !joins.areTogether(set, one, other)) {
                    together += village.worthOf(set);
                }
            }
            return together;
        }

        private boolean isOpen(int set, int must) {
            return (set & village.barred) == 0 && (set & must) == must;
        }

        /** The lanes that may be drifted up or not. */
        private int free() {
            return village.allLanes() & ~village.must & ~village.barred;
        }

        /** Each free lane has its chances in hundredths, so there are 100 times as many by each. */
        private long chancesInAll() {
            int free = Integer.bitCount(free());
            long chances = 1;
            for (int i = 0; i < free; i++) {
                chances *= 100;
            }
            return chances;
        }

        private long chancesToHold() {
            long together = 0;
            int free = free();
            int sets = village.sets();
            for (int set = 0; set < sets; set++) {
                if (village.allows(set) && joins.partsLeft(set) == 1) {
                    together += chancesOf(set, free);
                }
            }
            return together;
        }

        private long chancesOf(int set, int free) {
            long chances = 1;
            for (int lane = 0; lane < village.lanes && lane < MOST_LANES; lane++) {
                if ((free >> lane & 1) != 0) {
                    int drift = village.drift[lane];
                    chances *= (set >> lane & 1) != 0 ? 100 - drift : drift;
                }
            }
            return chances;
        }
    }

    /** The best plans for as many houses as were asked for last. */
    private static final class Plans {
        private int houses;
        /** Of each set of pairs of houses: in how many ways it joins all houses. */
        private final int[] ways;
        /** By the number of lanes: the most ways, and the first set that has them. */
        private final int[] most;
        private final int[] first;

        private Plans() {
            houses = 0;
            ways = new int[SETS];
            most = new int[MOST_PLAN_LANES + 1];
            first = new int[MOST_PLAN_LANES + 1];
        }

        private void makeFor(int many) {
            if (many == houses || many < 2 || many > MOST_PLAN_HOUSES) {
                return;
            }
            houses = many;
            int pairs = pairsOf(many);
            joinPairs();
            int sets = 1 << pairs;
            for (int set = 0; set < sets && set < SETS; set++) {
                ways[set] = yesNo(Joins.isForest(ways[set], 1));
            }
            for (int pair = 0; pair < pairs; pair++) {
                addThoseWithout(pair, sets);
            }
            chooseBest(sets);
        }

        /** Lets the table hold states first, with a lane for each pair: 01, 02, .., 12, .. */
        private void joinPairs() {
            ways[0] = Joins.apart(houses);
            int pair = 0;
            for (int from = 0; from < houses; from++) {
                for (int to = from + 1; to < houses; to++) {
                    Joins.joinAll(ways, pair, from, to);
                    pair++;
                }
            }
        }

        /** After this was done for each pair a set has the ways of all sets that are in it. */
        private void addThoseWithout(int pair, int sets) {
            int bit = 1 << pair;
            for (int set = 0; set < sets && set < SETS; set++) {
                if ((set & bit) != 0) {
                    ways[set] += ways[set - bit];
                }
            }
        }

        private void chooseBest(int sets) {
            for (int k = 0; k <= MOST_PLAN_LANES; k++) {
                most[k] = 0;
                first[k] = 0;
            }
            for (int set = 0; set < sets && set < SETS; set++) {
                int k = Integer.bitCount(set);
                if (k <= MOST_PLAN_LANES && ways[set] > most[k]) {
                    most[k] = ways[set];
                    first[k] = set;
                }
            }
        }

        private int mostWays(int k) {
            return k >= 0 && k <= MOST_PLAN_LANES ? most[k] : 0;
        }

        private int firstSet(int k) {
            return k >= 0 && k <= MOST_PLAN_LANES ? first[k] : 0;
        }
    }

    /** Lanes told one by one; they need not be there, nor be a way. */
    private static final class Row {
        private final Village village;
        private final Joins joins;
        private final int[] told;
        private int size;

        private Row(Village village, Joins joins) {
            this.village = village;
            this.joins = joins;
            told = new int[MOST_IN_ROW];
            size = 0;
        }

        private boolean hasRoom() {
            return size < MOST_IN_ROW;
        }

        private int append(int lane) {
            if (size < MOST_IN_ROW) {
                told[size] = lane;
                size++;
            }
            return size;
        }

        private void clear() {
            size = 0;
        }

        private int judged() {
            int ahead = 0;
            for (int place = 0; place < size && place < MOST_IN_ROW; place++) {
                int lane = told[place];
                if (!village.hasLane(lane) || village.ruleOf(lane) == BARRED) {
                    return place;
                }
                int bit = 1 << lane;
                if ((ahead & bit) != 0 || joins.hasRing(ahead | bit)) {
                    return place;
                }
                ahead |= bit;
            }
            return joins.isWay(ahead) ? NONE : size;
        }

        /** Its lanes as bits, if these are a way. */
        private int asWay() {
            int bits = 0;
            for (int place = 0; place < size && place < MOST_IN_ROW; place++) {
                bits |= 1 << told[place];
            }
            return joins.isWay(bits) ? bits : NONE;
        }
    }

    /** Those who make ways by a seed. */
    private static final class Drawers {
        private static final int WALK = 0;
        private static final int STEP = 1;
        private static final int CHEAP = 2;
        private static final int DEAR = 3;
        private static final int FAIR = 4;
        private static final int TOLD = 5;
        private static final int MOST_LANES_WALKED = 200;

        private final Village village;
        private final Ways ways;
        private final Row told;
        private int seed;
        /** Of each house: the lanes that go on from it (bits), and their weights together. */
        private final int[] lanesOn;
        private final int[] weightOn;
        /** The ways that STEP has still left (bits), and the worth of each. */
        private final int[] pool;
        private final int[] poolWorth;

        private Drawers(Village village, Ways ways, Row told) {
            this.village = village;
            this.ways = ways;
            this.told = told;
            seed = 0;
            lanesOn = new int[MOST_HOUSES];
            weightOn = new int[MOST_HOUSES];
            pool = new int[MOST_WAYS];
            poolWorth = new int[MOST_WAYS];
        }

        private boolean isDrawer(int drawer) {
            return drawer >= WALK && drawer <= TOLD;
        }

        private void begin(int z) {
            seed = z;
            lookRound();
        }

        private int makeNext(int drawer) {
            switch (drawer) {
                case WALK:
                    return walkAbout();
                case STEP:
                    return laneByLane();
                case CHEAP:
                    return ways.bitsByCost(0);
                case DEAR:
                    return ways.dearest();
                case FAIR:
                    return ways.size == 0 ? NONE : ways.at(below(ways.size));
                case TOLD:
                    return told.asWay();
                default:
                    return NONE;
            }
        }

        private int below(int n) {
            seed = seed * 1103515245 + 12345;
            return n > 0 ? (seed & 0x7fffffff) / 65536 % n : 0;
        }

        private void lookRound() {
            for (int house = 0; house < MOST_HOUSES; house++) {
                lanesOn[house] = 0;
                weightOn[house] = 0;
                for (int lane = 0; lane < village.lanes && lane < MOST_LANES; lane++) {
                    if (goesOn(lane, house)) {
                        lanesOn[house] |= 1 << lane;
                        weightOn[house] += village.weight[lane];
                    }
                }
            }
        }

        private boolean goesOn(int lane, int house) {
            if ((village.barred >> lane & 1) != 0) {
                return false;
            }
            return village.from[lane] == house
                    || village.to[lane] == house && village.kind[lane] != ONE;
        }

        private int walkAbout() {
            int all = village.allHouses();
            int at = 0;
            int been = 1;
            int kept = 0;
            for (int gone = 0; gone < MOST_LANES_WALKED && been != all; gone++) {
                int lane = laneFrom(at);
                if (!village.hasLane(lane)) {
                    return NONE;
                }
                at = village.from[lane] == at ? village.to[lane] : village.from[lane];
                if ((been >> at & 1) == 0) {
                    been |= 1 << at;
                    kept |= 1 << lane;
                }
            }
            return been == all ? kept : NONE;
        }

        /** The lane to go on by; NONE where no lane goes on. */
        private int laneFrom(int house) {
            if (house < 0 || house >= MOST_HOUSES || lanesOn[house] == 0) {
                return NONE;
            }
            int rest = below(weightOn[house]);
            for (int lane = 0; lane < village.lanes && lane < MOST_LANES; lane++) {
                if ((lanesOn[house] >> lane & 1) != 0) {
                    rest -= village.weight[lane];
                    if (rest < 0) {
                        return lane;
                    }
                }
            }
            return NONE;
        }

        /** Once one way is left, each further lane is in all of those left or in none of them. */
        private int laneByLane() {
            int left = ways.copyTo(pool, poolWorth);
            int total = poolWorthWith(0, left);
            for (int lane = 0; lane < village.lanes && left > 1; lane++) {
                int with = poolWorthWith(1 << lane, left);
                boolean keep = with == total || with > 0 && below(total) < with;
                left = narrow(1 << lane, left, keep);
                total = keep ? with : total - with;
            }
            return left > 0 ? pool[0] : NONE;
        }

        private int poolWorthWith(int bit, int left) {
            int together = 0;
            for (int i = 0; i < left && i < MOST_WAYS; i++) {
                if ((pool[i] & bit) == bit) {
                    together += poolWorth[i];
                }
            }
            return together;
        }

        /** Leaves the ways that have a lane (a bit), or those that do not: how many. */
        private int narrow(int bit, int left, boolean having) {
            int stay = 0;
            for (int i = 0; i < left && i < MOST_WAYS; i++) {
                if ((pool[i] & bit) == bit == having) {
                    pool[stay] = pool[i];
                    poolWorth[stay] = poolWorth[i];
                    stay++;
                }
            }
            return stay;
        }
    }
}
