import java.util.Arrays;

/** Deals lines between points to hosts, as ../shared/DOC.md promises. */
public final class LineDealer {
    public static final int NONE = -1;

    private static final int LEAST_HOSTS = 2;
    private static final int MOST_HOSTS = 8;
    private static final int POINTS = 40;
    private static final int MOST_LINES = 300;
    private static final int MOST_MOVES = 50;
    private static final int MOST_WEIGHT = 100;
    private static final int MOST_LINES_FOR_BEST = 8;
    private static final int MOST_HOSTS_FOR_BEST = 3;

    private static final int RULE_OF_LOADS = 0;
    private static final int RULE_OF_NUMBERS = 1;
    private static final int RULE_OF_COPIES = 2;

    private final Net net;
    private final Dealing dealing;
    private final MoveSearch moveSearch;
    private final BestSearch bestSearch;
    private final Spreading spreading;
    private final Mastering mastering;
    private final int[] waiting;
    private int windowSize;
    private int movesEver;

    public LineDealer(int hosts) {
        net = new Net(Math.max(LEAST_HOSTS, Math.min(MOST_HOSTS, hosts)));
        dealing = new Dealing(net);
        moveSearch = new MoveSearch(net);
        bestSearch = new BestSearch(net);
        spreading = new Spreading(net);
        mastering = new Mastering(net);
        waiting = new int[MOST_LINES];
    }

    public int line(int u, int v) {
        if (!isPoint(u) || !isPoint(v) || u == v || net.came >= MOST_LINES) {
            return NONE;
        }
        int dealt = dealing.dealLine(net.addLine(u, v));
        keepWindow();
        return dealt;
    }

    public boolean rule(int rule) {
        if (rule < RULE_OF_LOADS || rule > RULE_OF_COPIES) {
            return false;
        }
        dealing.ruleNow = rule;
        return true;
    }

    public boolean weights(int slack, int lean) {
        if (!isWeight(slack) || !isWeight(lean)) {
            return false;
        }
        dealing.slack = slack;
        dealing.lean = lean;
        return true;
    }

    public boolean window(int lines) {
        if (lines < 0 || lines > MOST_LINES) {
            return false;
        }
        windowSize = lines;
        keepWindow();
        return true;
    }

    public boolean leave(int line) {
        return net.takeOff(line);
    }

    public int better(int n) {
        if (n < 0 || n > MOST_MOVES) {
            return NONE;
        }
        int made = 0;
        while (made < n && makeBetterMove()) {
            made++;
        }
        movesEver += made;
        return made;
    }

    public int more() {
        if (net.hosts >= MOST_HOSTS) {
            return NONE;
        }
        net.hosts++;
        return net.hosts;
    }

    public int less(int host) {
        if (!net.hasHost(host) || net.hosts <= LEAST_HOSTS) {
            return NONE;
        }
        int dealtAnew = net.dropHost(host, waiting);
        for (int i = 0; i < dealtAnew && i < waiting.length; i++) {
            dealing.dealLine(waiting[i]);
        }
        return dealtAnew;
    }

    public int host(int line) {
        return net.isLive(line) ? net.hostOf[line] : NONE;
    }

    public int load(int host) {
        return net.hasHost(host) ? net.loads[host] : NONE;
    }

    public int copies(int point) {
        return isPoint(point) ? net.copyBits[point] : NONE;
    }

    public int all() {
        return net.allCopies;
    }

    public int degree(int point) {
        return isPoint(point) ? net.degrees[point] : NONE;
    }

    public int room() {
        return dealing.roomFor(net.live);
    }

    public int best() {
        if (net.live < 1 || net.live > MOST_LINES_FOR_BEST || net.hosts > MOST_HOSTS_FOR_BEST) {
            return NONE;
        }
        return bestSearch.fewestCopies(dealing.roomFor(net.live));
    }

    public int part(int point) {
        if (!isPoint(point)) {
            return NONE;
        }
        spreading.spread();
        return spreading.values[point];
    }

    public int run(int what) {
        if (what < 0 || what > 2) {
            return NONE;
        }
        spreading.spread();
        switch (what) {
            case 0:
                return spreading.rounds;
            case 1:
                return spreading.letters();
            default:
                return spreading.partsWithLines();
        }
    }

    public int master(int point) {
        return isPoint(point) ? mastering.masterOf(point) : NONE;
    }

    public int count(int what) {
        switch (what) {
            case 0:
                return net.hosts;
            case 1:
                return net.came;
            case 2:
                return net.live;
            case 3:
                return movesEver;
            case 4:
                return net.greatestLoad();
            case 5:
                return net.leastLoad();
            case 6:
                return net.pointsWithCopies();
            case 7:
                return dealing.ruleNow;
            case 8:
                return dealing.slack;
            case 9:
                return dealing.lean;
            case 10:
                return windowSize;
            default:
                return NONE;
        }
    }

    private static boolean isPoint(int point) {
        return point >= 0 && point < POINTS;
    }

    private static boolean isWeight(int weight) {
        return weight >= 0 && weight <= MOST_WEIGHT;
    }

    private void keepWindow() {
        if (windowSize == 0) {
            return;
        }
        for (int line = 0; line < net.came && net.live > windowSize; line++) {
            net.takeOff(line);
        }
    }

    private boolean makeBetterMove() {
        if (!moveSearch.findMove(dealing.roomFor(net.live))) {
            return false;
        }
        net.takeOff(moveSearch.chosenLine);
        net.putOn(moveSearch.chosenLine, moveSearch.chosenHost);
        return true;
    }

    /** Which lines are live on which hosts, and the sums that follow from it, kept up to date. */
    private static final class Net {
        final int[] firstEnd = new int[MOST_LINES];
        final int[] secondEnd = new int[MOST_LINES];
        final int[] hostOf = new int[MOST_LINES];
        final int[] loads = new int[MOST_HOSTS];
        final int[] degrees = new int[POINTS];
        final int[] copyBits = new int[POINTS];
        private final int[] linesAt = new int[MOST_HOSTS * POINTS];
        int hosts;
        int came;
        int live;
        int allCopies;

        Net(int hosts) {
            this.hosts = hosts;
        }

        boolean hasHost(int host) {
            return host >= 0 && host < hosts;
        }

        boolean isLive(int line) {
            return line >= 0 && line < came && hostOf[line] != NONE;
        }

        /** The caller has seen that one more line may come. */
        int addLine(int u, int v) {
            int line = came;
            firstEnd[line] = u;
            secondEnd[line] = v;
            hostOf[line] = NONE;
            came++;
            return line;
        }

        void putOn(int line, int host) {
            if (!hasHost(host)) {
                return;
            }
            hostOf[line] = host;
            loads[host]++;
            live++;
            putEnd(firstEnd[line], host);
            putEnd(secondEnd[line], host);
        }

        boolean takeOff(int line) {
            if (!isLive(line)) {
                return false;
            }
            int host = hostOf[line];
            hostOf[line] = NONE;
            loads[host]--;
            live--;
            takeEnd(firstEnd[line], host);
            takeEnd(secondEnd[line], host);
            return true;
        }

        private void putEnd(int point, int host) {
            degrees[point]++;
            linesAt[host * POINTS + point]++;
            if (linesAt[host * POINTS + point] == 1) {
                copyBits[point] |= 1 << host;
                allCopies++;
            }
        }

        private void takeEnd(int point, int host) {
            degrees[point]--;
            linesAt[host * POINTS + point]--;
            if (linesAt[host * POINTS + point] == 0) {
                copyBits[point] &= ~(1 << host);
                allCopies--;
            }
        }

        /** Takes the host's lines off, writes their numbers into the row, and says how many they are. */
        int dropHost(int host, int[] row) {
            int taken = 0;
            for (int line = 0; line < came; line++) {
                int old = hostOf[line];
                if (old == host && taken < row.length) {
                    takeOff(line);
                    row[taken] = line;
                    taken++;
                } else if (old > host) {
                    takeOff(line);
                    putOn(line, old - 1);
                }
            }
            hosts--;
            return taken;
        }

        boolean hasCopy(int point, int host) {
            return (copyBits[point] >> host & 1) == 1;
        }

        boolean hasOneLineAt(int point, int host) {
            return linesAt[host * POINTS + point] == 1;
        }

        int greatestLoad() {
            int greatest = 0;
            for (int host = 0; host < hosts; host++) {
                greatest = Math.max(greatest, loads[host]);
            }
            return greatest;
        }

        int leastLoad() {
            int least = live;
            for (int host = 0; host < hosts; host++) {
                least = Math.min(least, loads[host]);
            }
            return least;
        }

        int pointsWithCopies() {
            int points = 0;
            for (int point = 0; point < POINTS; point++) {
                if (copyBits[point] != 0) {
                    points++;
                }
            }
            return points;
        }
    }

    /** Chooses hosts for lines that come, by the rule and the weights. */
    private static final class Dealing {
        private final Net net;
        int ruleNow = RULE_OF_COPIES;
        int slack = 20;
        int lean = 5;

        Dealing(Net net) {
            this.net = net;
        }

        int roomFor(int lines) {
            int divisor = 100 * net.hosts;
            if (divisor <= 0) {
                return 0;
            }
            return (lines * (100 + slack) + divisor - 1) / divisor;
        }

        int dealLine(int line) {
            int chosen = chooseHost(net.firstEnd[line], net.secondEnd[line]);
            net.putOn(line, chosen);
            return chosen;
        }

        private int chooseHost(int u, int v) {
            int limit = roomFor(net.live + 1);
            int greatest = net.greatestLoad();
            int chosen = NONE;
            int chosenScore = 0;
            for (int host = 0; host < net.hosts; host++) {
                if (net.loads[host] >= limit) {
                    continue;
                }
                int score = scoreOf(host, u, v, greatest - net.loads[host]);
                if (chosen == NONE || score > chosenScore) {
                    chosen = host;
                    chosenScore = score;
                }
            }
            return chosen;
        }

        private int scoreOf(int host, int u, int v, int gap) {
            switch (ruleNow) {
                case RULE_OF_LOADS:
                    return gap;
                case RULE_OF_NUMBERS:
                    return net.hosts > 0 && (u + v) % net.hosts == host ? 1 : 0;
                default:
                    return 10 * scoreOfCopies(host, u, v) + lean * gap;
            }
        }

        private int scoreOfCopies(int host, int u, int v) {
            int degreeOfU = net.degrees[u] + 1;
            int degreeOfV = net.degrees[v] + 1;
            int twice = 2 * (degreeOfU + degreeOfV);
            int score = 0;
            if (net.hasCopy(u, host)) {
                score += twice - degreeOfU;
            }
            if (net.hasCopy(v, host)) {
                score += twice - degreeOfV;
            }
            return score;
        }
    }

    /** Looks for the move that lessens most. */
    private static final class MoveSearch {
        private final Net net;
        int chosenLine;
        int chosenHost;
        private int copiesChange;
        private int squaresChange;

        MoveSearch(Net net) {
            this.net = net;
        }

        boolean findMove(int limit) {
            chosenLine = NONE;
            chosenHost = NONE;
            // Staying as it is changes nothing: only a move that lessens comes before that.
            copiesChange = 0;
            squaresChange = 0;
            for (int line = 0; line < net.came; line++) {
                if (net.isLive(line)) {
                    weighMovesOf(line, limit);
                }
            }
            return chosenLine != NONE;
        }

        private void weighMovesOf(int line, int limit) {
            int home = net.hostOf[line];
            int u = net.firstEnd[line];
            int v = net.secondEnd[line];
            int freed = (net.hasOneLineAt(u, home) ? 1 : 0) + (net.hasOneLineAt(v, home) ? 1 : 0);
            // Wherever the line goes, no more copies than these vanish.
            if (-freed > copiesChange) {
                return;
            }
            for (int host = 0; host < net.hosts; host++) {
                if (host == home || net.loads[host] >= limit) {
                    continue;
                }
                int made = (net.hasCopy(u, host) ? 0 : 1) + (net.hasCopy(v, host) ? 0 : 1);
                // (a - 1)^2 + (b + 1)^2 less a^2 + b^2
                int squares = 2 * (net.loads[host] - net.loads[home] + 1);
                keepIfBetter(line, host, made - freed, squares);
            }
        }

        private void keepIfBetter(int line, int host, int copies, int squares) {
            if (copies < copiesChange || copies == copiesChange && squares < squaresChange) {
                chosenLine = line;
                chosenHost = host;
                copiesChange = copies;
                squaresChange = squares;
            }
        }
    }

    /** Tries all dealings of a small net; between two searches its loads and bits are 0. */
    private static final class BestSearch {
        private final Net net;
        private final int[] lines = new int[MOST_LINES_FOR_BEST];
        private final int[] tryLoads = new int[MOST_HOSTS_FOR_BEST];
        private final int[] tryBits = new int[POINTS];
        private int size;
        private int limit;
        private int fewest;

        BestSearch(Net net) {
            this.net = net;
        }

        int fewestCopies(int loadLimit) {
            collectLines();
            limit = loadLimit;
            // No dealing has more: each line makes two copies at most.
            fewest = 2 * size;
            dealFrom(0, 0, 0);
            return fewest;
        }

        private void collectLines() {
            size = 0;
            for (int line = 0; line < net.came && size < lines.length; line++) {
                if (net.isLive(line)) {
                    lines[size] = line;
                    size++;
                }
            }
        }

        private void dealFrom(int depth, int copies, int used) {
            if (copies >= fewest) {
                return;
            }
            if (depth >= size) {
                fewest = copies;
                return;
            }
            // Hosts are alike here: of those that are still empty one is enough.
            int hosts = Math.min(used + 1, Math.min(net.hosts, tryLoads.length));
            for (int host = 0; host < hosts; host++) {
                if (tryLoads[host] < limit) {
                    tryHost(depth, copies, host, Math.max(used, host + 1));
                }
            }
        }

        private void tryHost(int depth, int copies, int host, int used) {
            int u = net.firstEnd[lines[depth]];
            int v = net.secondEnd[lines[depth]];
            int bitsOfU = tryBits[u];
            int bitsOfV = tryBits[v];
            tryBits[u] = bitsOfU | 1 << host;
            tryBits[v] = bitsOfV | 1 << host;
            int made = (tryBits[u] == bitsOfU ? 0 : 1) + (tryBits[v] == bitsOfV ? 0 : 1);
            tryLoads[host]++;
            dealFrom(depth + 1, copies + made, used);
            tryLoads[host]--;
            tryBits[u] = bitsOfU;
            tryBits[v] = bitsOfV;
        }
    }

    /** A run: the least numbers spread along live lines, round by round. */
    private static final class Spreading {
        private final Net net;
        final int[] values = new int[POINTS];
        private final int[] before = new int[POINTS];
        int rounds;

        Spreading(Net net) {
            this.net = net;
        }

        void spread() {
            for (int point = 0; point < POINTS; point++) {
                values[point] = point;
            }
            rounds = 0;
            boolean changed = true;
            while (changed && rounds <= POINTS) {
                changed = goOneRound();
                rounds++;
            }
        }

        private boolean goOneRound() {
            System.arraycopy(values, 0, before, 0, POINTS);
            boolean changed = false;
            for (int line = 0; line < net.came; line++) {
                if (net.isLive(line) && spreadAlong(net.firstEnd[line], net.secondEnd[line])) {
                    changed = true;
                }
            }
            return changed;
        }

        /** Of the values ahead of the round only the lower one can change the other end's. */
        private boolean spreadAlong(int u, int v) {
            int taker = before[u] < before[v] ? v : u;
            int value = Math.min(before[u], before[v]);
            if (value >= values[taker]) {
                return false;
            }
            values[taker] = value;
            return true;
        }

        int letters() {
            int copiesButOne = net.allCopies - net.pointsWithCopies();
            return rounds * 2 * copiesButOne;
        }

        int partsWithLines() {
            int parts = 0;
            for (int point = 0; point < POINTS; point++) {
                if (values[point] == point && net.degrees[point] > 0) {
                    parts++;
                }
            }
            return parts;
        }
    }

    /** Gives each point with copies a master, as evenly as its copies let it. */
    private static final class Mastering {
        private final Net net;
        private final int[] mastered = new int[MOST_HOSTS];

        Mastering(Net net) {
            this.net = net;
        }

        int masterOf(int point) {
            Arrays.fill(mastered, 0);
            int master = NONE;
            for (int p = 0; p <= point; p++) {
                master = leastMasterFor(p);
                if (master != NONE) {
                    mastered[master]++;
                }
            }
            return master;
        }

        private int leastMasterFor(int point) {
            int least = NONE;
            for (int host = 0; host < net.hosts; host++) {
                if (net.hasCopy(point, host) && (least == NONE || mastered[host] < mastered[least])) {
                    least = host;
                }
            }
            return least;
        }
    }
}
