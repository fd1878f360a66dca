import java.util.Arrays;
import java.util.NoSuchElementException;

/** A house of collectives: hosts, lines, heaps of blocks, and plans of letters in steps. */
public final class SumsToAll {
    public static final int NONE = -1;

    private static final int NO_WAY = -2;
    private static final int NO_LINE = -3;
    private static final int RIGHT = 1;
    private static final int NOT_ASKED = 2;

    private static final int MOST_HOSTS = 16;
    private static final int BLOCK_BITS = 4;
    private static final int BLOCKS = 1 << BLOCK_BITS;
    private static final int CELLS = MOST_HOSTS * BLOCKS;
    private static final int PAIRS = MOST_HOSTS * MOST_HOSTS;
    private static final int MOST_WAIT = 1000;
    private static final int MOST_PER = 1000;
    private static final int MOST_LATE = 100000;
    private static final int MOST_STEPS = 64;
    private static final int MOST_SENDS = 1200;
    private static final int MOST_SEARCHED = 8;

    private static final int SPREAD = 0;
    private static final int TO_ONE = 1;
    private static final int TO_ALL = 2;
    private static final int GATHER = 3;
    private static final int TURN = 4;

    private static final int RING = 0;
    private static final int TREE = 1;
    private static final int HALVING = 2;
    private static final int DIRECT = 3;

    private final House house;
    private final Heaps heaps;
    private final Signs signs;
    private final Clock clock;
    private final Ways ways;
    private final Search search;
    private Plan plan;
    private Plan draft;

    public SumsToAll() {
        house = new House();
        heaps = new Heaps();
        signs = new Signs();
        clock = new Clock();
        ways = new Ways();
        search = new Search();
        plan = new Plan();
        draft = new Plan();
    }

    public boolean hosts(int n) {
        if (n < 2 || n > MOST_HOSTS) {
            return false;
        }
        house.begin(n);
        heaps.zero();
        plan.empty();
        return true;
    }

    public boolean line(int a, int b, int wait, int per) {
        if (!house.isPair(a, b)) {
            return false;
        }
        if (wait == NONE) {
            house.part(a, b);
        } else if (isPace(wait, per)) {
            house.join(a, b, wait, per);
        } else {
            return false;
        }
        plan.empty();
        return true;
    }

    public int net(int form, int wait, int per) {
        if (form < 0 || form > 3 || !isPace(wait, per)) {
            return NONE;
        }
        house.joinByForm(form, wait, per);
        plan.empty();
        return house.lines();
    }

    public boolean set(int host, int block, int v) {
        if (!house.isHost(host) || !isBlock(block)) {
            return false;
        }
        heaps.change(cell(host, block), v);
        return true;
    }

    public int at(int host, int block) throws NoSuchElementException {
        if (!house.isHost(host) || !isBlock(block)) {
            throw new NoSuchElementException("no such block");
        }
        return heaps.value(cell(host, block));
    }

    public boolean live(int host, boolean is) {
        if (!house.isHost(host) || !is && house.isLastLive(host)) {
            return false;
        }
        house.turn(host, is);
        plan.empty();
        return true;
    }

    public boolean late(int host, int ticks) {
        if (!house.isHost(host) || ticks < 0 || ticks > MOST_LATE) {
            return false;
        }
        house.delay(host, ticks);
        return true;
    }

    public int count(int what) {
        switch (what) {
            case 0:
                return house.size();
            case 1:
                return house.ranks();
            case 2:
                return house.lines();
            case 3:
                return plan.size();
            case 4:
                return plan.steps();
            case 5:
                return plan.letters();
            default:
                return NONE;
        }
    }

    // ---- plans

    public int build(int way, int ask, int root) {
        int steps = ways.draw(draft, house, way, ask, root);
        if (steps >= 0) {
            Plan old = plan;
            plan = draft;
            draft = old;
        }
        return steps;
    }

    public int clear() {
        int had = plan.size();
        plan.empty();
        return had;
    }

    public int send(int step, int from, int to, int block, int toBlock, boolean adds) {
        if (step < 0 || step >= MOST_STEPS || !isBlock(block) || !isBlock(toBlock)) {
            return NONE;
        }
        if (!house.isLive(from) || !house.isLive(to) || !house.hasLine(from, to)) {
            return NONE;
        }
        if (plan.isFull() || plan.forbids(step, from, to, toBlock)) {
            return NONE;
        }
        plan.place(step, from, to, block, toBlock, adds);
        return plan.size();
    }

    public int sent(int i, int what) {
        if (i < 0 || i >= plan.size()) {
            return NONE;
        }
        switch (what) {
            case 0:
                return plan.step(i);
            case 1:
                return plan.from(i);
            case 2:
                return plan.to(i);
            case 3:
                return plan.block(i);
            case 4:
                return plan.toBlock(i);
            case 5:
                return plan.isAdded(i) ? 1 : 0;
            default:
                return NONE;
        }
    }

    public int right(int ask, int root) {
        if (!isAsked(house, ask, root)) {
            return NOT_ASKED;
        }
        int wrong = signs.firstWrong(plan, house, ask, root);
        if (wrong >= CELLS) {
            return RIGHT;
        }
        return -100 * hostOfCell(wrong) - blockOfCell(wrong) - 1;
    }

    public int run() {
        heaps.follow(plan);
        return plan.steps();
    }

    public int ticks() {
        return clock.inStep(plan, house);
    }

    public int freely(int host) {
        if (!house.isLive(host)) {
            return NONE;
        }
        return clock.endOf(host, plan, house);
    }

    public int best(int ask, int root) {
        if (!isAsked(house, ask, root)) {
            return NONE;
        }
        int least = 0;
        int chosen = NO_WAY;
        for (int way = RING; way <= DIRECT; way++) {
            int price = draftTicks(ways.draw(draft, house, way, ask, root));
            if (price >= 0 && (chosen == NO_WAY || price < least)) {
                least = price;
                chosen = way;
            }
        }
        return chosen;
    }

    public int price(int way, int ask, int root) {
        return draftTicks(ways.draw(draft, house, way, ask, root));
    }

    public int fewest(int root) {
        if (!house.isLive(root) || house.ranks() > MOST_SEARCHED) {
            return NONE;
        }
        return search.leastSteps(house, house.rankOf(root));
    }

    /** The ticks of the draft that was just drawn in so many steps, or why there is none. */
    private int draftTicks(int steps) {
        return steps < 0 ? steps : clock.inStep(draft, house);
    }

    private static boolean isAsked(House house, int ask, int root) {
        return ask >= SPREAD && ask <= TURN && house.isLive(root);
    }

    private static boolean isPace(int wait, int per) {
        return wait >= 0 && wait <= MOST_WAIT && per >= 1 && per <= MOST_PER;
    }

    private static boolean isBlock(int block) {
        return block >= 0 && block < BLOCKS;
    }

    private static int cell(int host, int block) {
        return host * BLOCKS + block;
    }

    private static boolean isCell(int cell) {
        return cell >= 0 && cell < CELLS;
    }

    private static int hostOfCell(int cell) {
        return cell >> BLOCK_BITS;
    }

    private static int blockOfCell(int cell) {
        return cell & BLOCKS - 1;
    }

    /** The hosts, which of them are live, how late they are, and the lines between them. */
    private static final class House {
        private final boolean[] alive = new boolean[MOST_HOSTS];
        private final int[] lateness = new int[MOST_HOSTS];
        private final int[] hostByRank = new int[MOST_HOSTS];
        private final int[] rankByHost = new int[MOST_HOSTS];
        private final int[] waits = new int[PAIRS];
        private final int[] pers = new int[PAIRS];
        private int size;
        private int ranks;
        private int lines;

        House() {
            begin(2);
        }

        void begin(int n) {
            size = n;
            lines = 0;
            for (int host = 0; host < MOST_HOSTS; host++) {
                alive[host] = host < n;
            }
            Arrays.fill(lateness, 0);
            Arrays.fill(waits, NONE);
            rankAnew();
        }

        int size() {
            return size;
        }

        int ranks() {
            return ranks;
        }

        int lines() {
            return lines;
        }

        boolean isHost(int host) {
            return host >= 0 && host < size;
        }

        boolean isLive(int host) {
            return isHost(host) && alive[host];
        }

        boolean isLastLive(int host) {
            return isLive(host) && ranks == 1;
        }

        boolean isPair(int a, int b) {
            return isHost(a) && isHost(b) && a != b;
        }

        /** No number but that of two hosts ever has a wait, so the rows' own bounds are enough. */
        boolean hasLine(int a, int b) {
            return a >= 0 && a < MOST_HOSTS && b >= 0 && b < MOST_HOSTS
                    && waits[a * MOST_HOSTS + b] != NONE;
        }

        int hostOf(int rank) {
            return rank >= 0 && rank < ranks ? hostByRank[rank] : NONE;
        }

        int rankOf(int host) {
            return isLive(host) ? rankByHost[host] : NONE;
        }

        int latenessOf(int host) {
            return isHost(host) ? lateness[host] : 0;
        }

        int letterTicks(int from, int to, int blocks) {
            if (!hasLine(from, to)) {
                return 0;
            }
            return waits[pair(from, to)] + blocks * pers[pair(from, to)];
        }

        void turn(int host, boolean is) {
            if (isHost(host)) {
                alive[host] = is;
                rankAnew();
            }
        }

        void delay(int host, int ticks) {
            if (isHost(host)) {
                lateness[host] = ticks;
            }
        }

        void join(int a, int b, int wait, int per) {
            if (!isPair(a, b)) {
                return;
            }
            if (!hasLine(a, b)) {
                lines++;
            }
            waits[pair(a, b)] = wait;
            waits[pair(b, a)] = wait;
            pers[pair(a, b)] = per;
            pers[pair(b, a)] = per;
        }

        void part(int a, int b) {
            if (!hasLine(a, b)) {
                return;
            }
            lines--;
            waits[pair(a, b)] = NONE;
            waits[pair(b, a)] = NONE;
        }

        void joinByForm(int form, int wait, int per) {
            for (int a = 0; a < size; a++) {
                for (int b = a + 1; b < size; b++) {
                    if (isInForm(form, a, b)) {
                        join(a, b, wait, per);
                    }
                }
            }
        }

        /** Whether a form joins a with b, a being the lesser. */
        private boolean isInForm(int form, int a, int b) {
            switch (form) {
                case 0:
                    return b == a + 1 || a == 0 && b == size - 1;
                case 1:
                    return true;
                case 2:
                    return b == a + 1;
                default:
                    return Integer.bitCount(a ^ b) == 1;
            }
        }

        private void rankAnew() {
            ranks = 0;
            for (int host = 0; host < size && host < MOST_HOSTS; host++) {
                if (alive[host]) {
                    hostByRank[ranks] = host;
                    rankByHost[host] = ranks;
                    ranks++;
                }
            }
        }

        private static int pair(int a, int b) {
            return a * MOST_HOSTS + b;
        }
    }

    /**
     * The sends, each packed in an int with step, from and block there on top, so that the order
     * of these ints is the order in which the sends are told.
     */
    private static final class Plan {
        private static final int STEP_AT = 17;
        private static final int FROM_AT = 13;
        private static final int TO_BLOCK_AT = 9;
        private static final int TO_AT = 5;
        private static final int BLOCK_AT = 1;
        private static final int FOUR_BITS = 15;

        private final int[] packed = new int[MOST_SENDS];
        private int size;

        void empty() {
            size = 0;
        }

        int size() {
            return size;
        }

        boolean isFull() {
            return size >= MOST_SENDS;
        }

        int steps() {
            return size <= 0 ? 0 : (packed[size - 1] >> STEP_AT) + 1;
        }

        int letters() {
            int letters = 0;
            for (int i = 0; i < size; i++) {
                if (endsLetter(i)) {
                    letters++;
                }
            }
            return letters;
        }

        int step(int i) {
            return sendAt(i) >> STEP_AT;
        }

        int from(int i) {
            return sendAt(i) >> FROM_AT & FOUR_BITS;
        }

        int to(int i) {
            return sendAt(i) >> TO_AT & FOUR_BITS;
        }

        int block(int i) {
            return sendAt(i) >> BLOCK_AT & FOUR_BITS;
        }

        int toBlock(int i) {
            return sendAt(i) >> TO_BLOCK_AT & FOUR_BITS;
        }

        boolean isAdded(int i) {
            return (sendAt(i) & 1) != 0;
        }

        int source(int i) {
            return cell(from(i), block(i));
        }

        int target(int i) {
            return cell(to(i), toBlock(i));
        }

        /** Whether i is the last send of its letter: a host has but one letter in a step. */
        boolean endsLetter(int i) {
            return i + 1 >= size || sendAt(i) >> FROM_AT != sendAt(i + 1) >> FROM_AT;
        }

        boolean endsStep(int i) {
            return i + 1 >= size || step(i) != step(i + 1);
        }

        /** Whether the sends of the step leave no room for one such send more. */
        boolean forbids(int step, int from, int to, int toBlock) {
            for (int i = 0; i < size; i++) {
                if (step(i) != step) {
                    continue;
                }
                boolean sameFrom = from(i) == from;
                boolean sameTo = to(i) == to;
                if (sameFrom != sameTo || sameTo && toBlock(i) == toBlock) {
                    return true;
                }
            }
            return false;
        }

        void place(int step, int from, int to, int block, int toBlock, boolean adds) {
            if (size >= MOST_SENDS) {
                return;
            }
            int send = step << STEP_AT | from << FROM_AT | toBlock << TO_BLOCK_AT
                    | to << TO_AT | block << BLOCK_AT | (adds ? 1 : 0);
            int hole = size;
            while (hole > 0 && packed[hole - 1] > send) {
                packed[hole] = packed[hole - 1];
                hole--;
            }
            packed[hole] = send;
            size++;
        }

        private int sendAt(int i) {
            return i >= 0 && i < size ? packed[i] : 0;
        }
    }

    /** What can follow a plan: all that a step sends is taken up before any of it comes down. */
    private abstract static class Follower {
        abstract void takeUp(int source, int target);

        abstract void putDown(int target);

        abstract void addDown(int target);

        final void follow(Plan plan) {
            int first = 0;
            for (int i = 0; i < plan.size(); i++) {
                takeUp(plan.source(i), plan.target(i));
                if (plan.endsStep(i)) {
                    bringDown(plan, first, i);
                    first = i + 1;
                }
            }
        }

        private void bringDown(Plan plan, int first, int last) {
            for (int i = first; i <= last; i++) {
                if (plan.isAdded(i)) {
                    addDown(plan.target(i));
                } else {
                    putDown(plan.target(i));
                }
            }
        }
    }

    /** The numbers in the blocks. What is under way is kept by its target: no two share one. */
    private static final class Heaps extends Follower {
        private final int[] numbers = new int[CELLS];
        private final int[] underWay = new int[CELLS];

        void zero() {
            Arrays.fill(numbers, 0);
        }

        int value(int cell) {
            return isCell(cell) ? numbers[cell] : 0;
        }

        void change(int cell, int v) {
            if (isCell(cell)) {
                numbers[cell] = v;
            }
        }

        void takeUp(int source, int target) {
            if (isCell(source) && isCell(target)) {
                underWay[target] = numbers[source];
            }
        }

        void putDown(int target) {
            if (isCell(target)) {
                numbers[target] = underWay[target];
            }
        }

        void addDown(int target) {
            if (isCell(target)) {
                numbers[target] += underWay[target];
            }
        }
    }

    /**
     * Who is in each sum. Every block has a sign of its own; only none, once and more than once
     * are told apart, so two bits a sign are enough. The signs of four hosts fill a long: a plan
     * is followed once for each such group, in the same rows.
     */
    private static final class Signs extends Follower {
        private static final int GROUP_HOSTS = 4;
        private static final int GROUP_CELLS = GROUP_HOSTS * BLOCKS;

        private final long[] some = new long[CELLS];
        private final long[] more = new long[CELLS];
        private final long[] someUnderWay = new long[CELLS];
        private final long[] moreUnderWay = new long[CELLS];
        private int group;

        /** The first cell that is not as asked; CELLS if all are. */
        int firstWrong(Plan plan, House house, int ask, int root) {
            int first = CELLS;
            for (int g = 0; g * GROUP_HOSTS < house.size(); g++) {
                begin(g);
                follow(plan);
                first = Math.min(first, firstWrongInGroup(house, ask, root));
            }
            return first;
        }

        private void begin(int g) {
            group = g;
            for (int cell = 0; cell < CELLS; cell++) {
                some[cell] = signOf(cell);
                more[cell] = 0L;
            }
        }

        private int firstWrongInGroup(House house, int ask, int root) {
            for (int cell = 0; cell < CELLS; cell++) {
                int host = hostOfCell(cell);
                if (!house.isLive(host) || isFree(house, ask, root, cell)) {
                    continue;
                }
                if (more[cell] != 0L || some[cell] != askedOf(house, ask, root, cell)) {
                    return cell;
                }
            }
            return CELLS;
        }

        private static boolean isFree(House house, int ask, int root, int cell) {
            return ask == TO_ONE && hostOfCell(cell) != root && blockOfCell(cell) < house.ranks();
        }

        private long askedOf(House house, int ask, int root, int cell) {
            int block = blockOfCell(cell);
            if (block >= house.ranks()) {
                return signOf(cell);
            }
            switch (ask) {
                case SPREAD:
                    return signOf(cell(root, block));
                case GATHER:
                    return signOf(cell(house.hostOf(block), block));
                case TURN:
                    return signOf(cell(house.hostOf(block), house.rankOf(hostOfCell(cell))));
                default:
                    return sumOf(house, block);
            }
        }

        private long sumOf(House house, int block) {
            long sum = 0L;
            for (int i = 0; i < GROUP_HOSTS; i++) {
                int host = group * GROUP_HOSTS + i;
                if (house.isLive(host)) {
                    sum |= signOf(cell(host, block));
                }
            }
            return sum;
        }

        private long signOf(int cell) {
            int sign = cell - group * GROUP_CELLS;
            return sign >= 0 && sign < GROUP_CELLS ? 1L << sign : 0L;
        }

        void takeUp(int source, int target) {
            if (isCell(source) && isCell(target)) {
                someUnderWay[target] = some[source];
                moreUnderWay[target] = more[source];
            }
        }

        void putDown(int target) {
            if (isCell(target)) {
                some[target] = someUnderWay[target];
                more[target] = moreUnderWay[target];
            }
        }

        void addDown(int target) {
            if (isCell(target)) {
                more[target] |= moreUnderWay[target] | some[target] & someUnderWay[target];
                some[target] |= someUnderWay[target];
            }
        }
    }

    /** The ticks of a plan, in step and freely. */
    private static final class Clock {
        private final int[] ahead = new int[MOST_HOSTS];
        private final int[] behind = new int[MOST_HOSTS];

        int inStep(Plan plan, House house) {
            int sum = 0;
            int longest = 0;
            int blocks = 0;
            for (int i = 0; i < plan.size(); i++) {
                blocks++;
                if (plan.endsLetter(i)) {
                    longest = Math.max(longest, house.letterTicks(plan.from(i), plan.to(i), blocks));
                    blocks = 0;
                }
                if (plan.endsStep(i)) {
                    sum += longest;
                    longest = 0;
                }
            }
            return sum;
        }

        int endOf(int host, Plan plan, House house) {
            for (int i = 0; i < MOST_HOSTS; i++) {
                ahead[i] = house.latenessOf(i);
                behind[i] = ahead[i];
            }
            int blocks = 0;
            for (int i = 0; i < plan.size(); i++) {
                blocks++;
                if (plan.endsLetter(i)) {
                    takeLetter(plan.from(i), plan.to(i), house, blocks);
                    blocks = 0;
                }
                if (plan.endsStep(i)) {
                    System.arraycopy(behind, 0, ahead, 0, MOST_HOSTS);
                }
            }
            return host >= 0 && host < MOST_HOSTS ? behind[host] : NONE;
        }

        /** The end is later than both times ahead, so the greatest of all is the latest end. */
        private void takeLetter(int from, int to, House house, int blocks) {
            if (!house.isPair(from, to)) {
                return;
            }
            int end = Math.max(ahead[from], ahead[to]) + house.letterTicks(from, to, blocks);
            behind[from] = Math.max(behind[from], end);
            behind[to] = Math.max(behind[to], end);
        }
    }

    /** Draws the plans of the four ways, by ranks. */
    private static final class Ways {
        /** By way: bit a stands for ask a. */
        private static final int[] KNOWN = {0b01111, 0b00111, 0b01100, 0b11011};

        private Plan drawn;
        private House house;
        private int m;
        private int rootRank;
        private int step;
        private boolean lacksLine;

        /** The steps of the plan, or NONE, NO_WAY, NO_LINE: then what is drawn is of no use. */
        int draw(Plan into, House within, int way, int ask, int root) {
            if (way < 0 || way >= KNOWN.length || !isAsked(within, ask, root)) {
                return NONE;
            }
            begin(into, within, root);
            if ((KNOWN[way] >> ask & 1) == 0 || way == HALVING && (m & m - 1) != 0) {
                return NO_WAY;
            }
            switch (way) {
                case RING:
                    ring(ask);
                    break;
                case TREE:
                    tree(ask);
                    break;
                case HALVING:
                    halving(ask);
                    break;
                default:
                    direct(ask);
                    break;
            }
            return lacksLine ? NO_LINE : drawn.steps();
        }

        private void begin(Plan into, House within, int root) {
            drawn = into;
            drawn.empty();
            house = within;
            m = house.ranks();
            rootRank = house.rankOf(root);
            step = 0;
            lacksLine = false;
        }

        private void ring(int ask) {
            switch (ask) {
                case SPREAD:
                    ringFromRoot(0, false);
                    break;
                case TO_ONE:
                    ringFromRoot(1, true);
                    break;
                case TO_ALL:
                    ringOfAll(0, true);
                    ringOfAll(1, false);
                    break;
                default:
                    ringOfAll(0, false);
                    break;
            }
        }

        private void ringFromRoot(int firstQ, boolean adds) {
            for (int t = 0; t < m - 1; t++) {
                giveAll(rankOfQ(t + firstQ), rankOfQ(t + firstQ + 1), adds);
                endStep();
            }
        }

        private void ringOfAll(int firstBlock, boolean adds) {
            for (int t = 0; t < m - 1; t++) {
                for (int i = 0; i < m; i++) {
                    int block = byM(i + firstBlock - t);
                    give(i, byM(i + 1), block, block, 1, adds);
                }
                endStep();
            }
        }

        /** Backward it begins with the greatest d of all: where d is not below m, nothing is sent. */
        private void tree(int ask) {
            if (ask != SPREAD) {
                for (int d = MOST_HOSTS; d > 0; d >>= 1) {
                    treeStep(d, true);
                }
            }
            if (ask != TO_ONE) {
                for (int d = 1; d < m; d <<= 1) {
                    treeStep(d, false);
                }
            }
        }

        private void treeStep(int d, boolean toRoot) {
            for (int q = 0; q < d && q + d < m; q++) {
                if (toRoot) {
                    giveAll(rankOfQ(q + d), rankOfQ(q), true);
                } else {
                    giveAll(rankOfQ(q), rankOfQ(q + d), false);
                }
            }
            endStep();
        }

        private void halving(int ask) {
            for (int d = 1; d < m; d <<= 1) {
                for (int i = 0; i < m; i++) {
                    if (ask == TO_ALL) {
                        giveAll(i, i ^ d, true);
                    } else {
                        int block = i - (i & d - 1);
                        give(i, i ^ d, block, block, d, false);
                    }
                }
                endStep();
            }
        }

        private void direct(int ask) {
            switch (ask) {
                case SPREAD:
                    directWithRoot(false);
                    break;
                case TO_ONE:
                    directWithRoot(true);
                    break;
                case GATHER:
                    directGather();
                    break;
                default:
                    directTurn();
                    break;
            }
        }

        private void directWithRoot(boolean toRoot) {
            for (int q = 1; q < m; q++) {
                if (toRoot) {
                    giveAll(rankOfQ(q), rootRank, true);
                } else {
                    giveAll(rootRank, rankOfQ(q), false);
                }
                endStep();
            }
        }

        private void directGather() {
            for (int t = 1; t < m; t++) {
                for (int i = 0; i < m; i++) {
                    give(i, byM(i + t), i, i, 1, false);
                }
                endStep();
            }
        }

        private void directTurn() {
            for (int t = 0; t < m; t++) {
                for (int i = 0; i < m; i++) {
                    int j = byM(t - i);
                    if (j != i) {
                        give(i, j, j, i, 1, false);
                    }
                }
                endStep();
            }
        }

        private void giveAll(int i, int j, boolean adds) {
            give(i, j, 0, 0, m, adds);
        }

        private void give(int i, int j, int block, int toBlock, int blocks, boolean adds) {
            int from = house.hostOf(i);
            int to = house.hostOf(j);
            if (!house.hasLine(from, to)) {
                lacksLine = true;
                return;
            }
            for (int k = 0; k < blocks; k++) {
                drawn.place(step, from, to, block + k, toBlock + k, adds);
            }
        }

        /** A step in which nothing was sent leaves the plan, and so the count, as it was. */
        private void endStep() {
            step = drawn.steps();
        }

        private int rankOfQ(int q) {
            return byM(byM(q) + rootRank);
        }

        /** Without a division: what comes here is never further off than one m. */
        private int byM(int x) {
            if (x < 0) {
                return x + m;
            }
            return x >= m ? x - m : x;
        }
    }

    /** The search for the fewest steps of a spread, over the sets of ranks that have the heap. */
    private static final class Search {
        private static final int SETS = 1 << MOST_SEARCHED;

        private final int[] joined = new int[MOST_SEARCHED];
        private final int[] stepsTo = new int[SETS];
        private final boolean[] reached = new boolean[SETS];
        private int m;
        private int all;

        int leastSteps(House house, int rootRank) {
            m = house.ranks();
            if (m > MOST_SEARCHED || rootRank < 0 || rootRank >= m) {
                return NONE;
            }
            all = (1 << m) - 1;
            readLines(house);
            Arrays.fill(stepsTo, NONE);
            stepsTo[1 << rootRank] = 0;
            for (int steps = 0; steps < m && stepsTo[all] == NONE; steps++) {
                for (int set = 1; set <= all; set++) {
                    if (stepsTo[set] == steps) {
                        stepFrom(set, steps + 1);
                    }
                }
            }
            return stepsTo[all];
        }

        private void readLines(House house) {
            for (int i = 0; i < m; i++) {
                joined[i] = 0;
                for (int j = 0; j < m; j++) {
                    if (house.hasLine(house.hostOf(i), house.hostOf(j))) {
                        joined[i] |= 1 << j;
                    }
                }
            }
        }

        private void stepFrom(int set, int steps) {
            for (int to = set; to <= all; to++) {
                reached[to] = to == set;
            }
            for (int i = 0; i < m; i++) {
                if ((set >> i & 1) != 0 && (joined[i] & ~set) != 0) {
                    letSend(i, set);
                }
            }
            for (int to = set; to <= all; to++) {
                if (reached[to] && stepsTo[to] == NONE) {
                    stepsTo[to] = steps;
                }
            }
        }

        /**
         * Downward, so that a set made here is not met again. Who can send does: a greater set
         * never needs more steps than one within it.
         */
        private void letSend(int i, int least) {
            for (int set = all; set >= least; set--) {
                int open = joined[i] & ~set;
                if (!reached[set] || open == 0) {
                    continue;
                }
                reached[set] = false;
                for (int j = 0; j < m; j++) {
                    if ((open >> j & 1) != 0) {
                        reached[set | 1 << j] = true;
                    }
                }
            }
        }
    }
}
