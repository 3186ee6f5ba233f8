/**
 * Weighted pushdown systems: a state and a stack of letters, and rules that replace the top letter.
 * What the class promises is told in DOC.md; README.md says how to use it.
 */
public final class CallTowers {
    public static final int BAD = -1, NO = -2, FULL = -3, NONE = -4;

    private static final int STATES = 3;
    private static final int LETTERS = 4;
    private static final int HEADS = STATES * LETTERS;
    private static final int RULES = 10;
    private static final int WORDS = 1 + LETTERS + LETTERS * LETTERS;
    private static final int TOP_COST = 9;
    private static final int TARGETS = 4;
    private static final int TARGET_LETTERS = 3;
    private static final int STACK = 12;
    private static final int TEXT_STACK = 6;
    private static final int TEXT = 200;
    private static final int PAST = 8;
    private static final int SAVED = 2;
    private static final int MODES = 3;
    private static final int STEPS = 1;
    private static final int WORST = 2;
    private static final int NODES = STATES + 2 + TARGETS * (TARGET_LETTERS - 1);
    // No edge is as heavy; a long holds every sum, and every price and number of steps is below 2 to the 31st.
    private static final long FAR = 1000000000000L;
    // A cheapest edge never needs itself, so 3 * 4 * 13 rounds settle every automaton.
    private static final int ROUNDS = 1000;
    // For the same reason a shortest run piles up at most 3 * 4 * 13 letters on the 12 that are there.
    private static final int HIGH = 200;
    private static final int NO_RULE = -1;
    private static final int LEFT_OUT = -1;
    private static final String FIRST_SYSTEM =
        "n2;r0,a,0,ba,2;r0,b,1,,1;r1,a,1,,3;r1,b,0,b,0;r1,a,0,c,5;r0,c,0,cc,1;r0,c,1,,4;t1,;t0,cc.;c0,aa;m0;";

    private final Script script = new Script();
    private final Tower now = new Tower();
    private final Tower draft = new Tower();
    private final Tower[] past = new Tower[PAST];
    private int pastNext;
    private int pastCount;
    private final Tower[] saved = new Tower[SAVED];
    private int savedCount;
    private final Net net = new Net();
    private boolean netFresh;
    private final Net paces = new Net();
    private boolean pacesFresh;
    private final Net trial = new Net();
    private final Route route = new Route();
    private boolean routeFresh;
    private final Reach reach = new Reach();

    public CallTowers() {
        for (int i = 0; i < PAST; i++) {
            past[i] = new Tower();
        }
        for (int i = 0; i < SAVED; i++) {
            saved[i] = new Tower();
        }
        for (int i = 0; i < FIRST_SYSTEM.length(); i++) {
            script.append(FIRST_SYSTEM.charAt(i));
        }
        script.readInto(now);
        script.clear();
    }

    // ---- systems

    public int write(int letter) {
        if (letter < 32 || letter > 126) {
            return BAD;
        }
        return script.append((char) letter) ? script.length : FULL;
    }

    public int wipe() {
        int length = script.length;
        script.clear();
        return length;
    }

    public int fault() {
        return script.readInto(draft);
    }

    public int lay() {
        if (script.readInto(draft) != NONE || draft.rules == 0) {
            return NO;
        }
        now.copyFrom(draft);
        pastCount = 0;
        savedCount = 0;
        noteNewRules();
        return now.rules;
    }

    public int rule(int r, int what) {
        if (!isRule(r)) {
            return BAD;
        }
        switch (what) {
            case 0: return now.from[r];
            case 1: return now.top[r];
            case 2: return now.into[r];
            case 3: return lettersIn(now.word[r]);
            case 4: return firstLetter(now.word[r]);
            case 5: return secondLetter(now.word[r]);
            case 6: return now.cost[r];
            default: return BAD;
        }
    }

    public int target(int t, int what) {
        if (t < 0 || t >= now.targets || what < 0 || what > 2 + TARGET_LETTERS) {
            return BAD;
        }
        switch (what) {
            case 0: return now.targetState[t];
            case 1: return now.targetLength[t];
            case 2: return now.targetOpen[t] ? 1 : 0;
            default: return what - 3 < now.targetLength[t] ? now.targetWord[t * TARGET_LETTERS + what - 3] : NONE;
        }
    }

    public int stack(int k) {
        if (k < -2) {
            return BAD;
        }
        if (k == -2) {
            return now.state;
        }
        if (k == -1) {
            return now.height;
        }
        return k < now.height ? now.stack[now.height - 1 - k] : NONE;
    }

    // ---- changes

    public int push(int letter) {
        if (!isLetter(letter)) {
            return BAD;
        }
        if (now.height >= STACK) {
            return FULL;
        }
        remember();
        now.putLetter(letter);
        return now.height;
    }

    public int pop() {
        if (now.height == 0) {
            return NO;
        }
        remember();
        return now.takeLetter();
    }

    public int step(int r) {
        if (!isRule(r)) {
            return BAD;
        }
        if (!now.applies(r)) {
            return NO;
        }
        if (now.heightAfter(r) > STACK) {
            return FULL;
        }
        remember();
        now.apply(r);
        return now.height;
    }

    public int go(int state) {
        if (!isState(state)) {
            return BAD;
        }
        int before = now.state;
        if (state == before) {
            return NO;
        }
        remember();
        now.state = state;
        return before;
    }

    public int enter(int p, int x, int q, int word, int cost) {
        if (!isState(p) || !isLetter(x) || !isState(q) || word < 0 || word >= WORDS || !isCost(cost)) {
            return BAD;
        }
        if (now.rules >= RULES) {
            return FULL;
        }
        remember();
        now.addRule(p, x, q, word, cost);
        noteNewRules();
        return now.rules - 1;
    }

    public int drop(int r) {
        if (!isRule(r)) {
            return BAD;
        }
        if (now.rules == 1) {
            return NO;
        }
        remember();
        now.removeRule(r);
        noteNewRules();
        return now.rules;
    }

    public int weigh(int r, int cost) {
        if (!isRule(r) || !isCost(cost)) {
            return BAD;
        }
        int before = now.cost[r];
        if (cost == before) {
            return NO;
        }
        remember();
        now.cost[r] = cost;
        noteNewRules();
        return before;
    }

    public int mode(int m) {
        if (m < 0 || m >= MODES) {
            return BAD;
        }
        int before = now.mode;
        if (m == before) {
            return NO;
        }
        remember();
        now.mode = m;
        noteNewRules();
        return before;
    }

    public int undo() {
        if (pastCount == 0) {
            return NO;
        }
        pastNext = (pastNext + PAST - 1) % PAST;
        pastCount--;
        now.copyFrom(past[pastNext]);
        noteNewRules();
        return pastCount;
    }

    // ---- prices, runs, heads

    public int price() {
        renewNet();
        return net.priceOf(now);
    }

    public int run(int k) {
        if (k < -1) {
            return BAD;
        }
        renewRoute();
        int steps = route.steps();
        if (steps == NONE || k >= steps) {
            return NONE;
        }
        if (k == -1) {
            return steps;
        }
        // The step that was made last is still known; an earlier one takes a new start.
        if (k + 1 < route.done) {
            route.begin(now, paces);
        }
        return route.ruleAt(k, now, paces);
    }

    public int heads(int state, int letter) {
        if (!isState(state) || !isLetter(letter)) {
            return BAD;
        }
        reach.explore(now);
        return reach.hasHead(state, letter) ? 1 : 0;
    }

    public int empty(int state) {
        if (!isState(state)) {
            return BAD;
        }
        reach.explore(now);
        return (reach.bottoms >> state) & 1;
    }

    public int stuck() {
        reach.explore(now);
        int found = Integer.bitCount(reach.bottoms);
        for (int state = 0; state < now.states; state++) {
            for (int letter = 0; letter < LETTERS; letter++) {
                if (reach.hasHead(state, letter) && now.rulesFor(state, letter) == 0) {
                    found++;
                }
            }
        }
        return found;
    }

    public int edge(int node, int letter, int to) {
        renewNet();
        if (!net.isNode(node) || !isLetter(letter) || !net.isNode(to)) {
            return BAD;
        }
        long weight = net.weights[edgeAt(node, letter, to)];
        return weight < FAR ? (int) weight : NONE;
    }

    public int automaton(int what) {
        renewNet();
        switch (what) {
            case 0: return net.nodes;
            case 1: return net.firstEdges;
            case 2: return net.edges;
            case 3: return net.rounds;
            default: return BAD;
        }
    }

    public int needed() {
        if (price() == NONE) {
            return 0;
        }
        int mask = 0;
        for (int r = 0; r < now.rules; r++) {
            // Only whether there is a run counts here, and this mode settles soonest.
            trial.build(now, WORST, r, LEFT_OUT);
            if (trial.priceOf(now) == NONE) {
                mask |= 1 << r;
            }
        }
        return mask;
    }

    public int dear(int r) {
        if (!isRule(r)) {
            return BAD;
        }
        int price = price();
        if (price == NONE) {
            return NONE;
        }
        if (priceWith(r, TOP_COST) == price) {
            return TOP_COST;
        }
        // The price never falls when a cost grows, so the first cost that changes it ends the search.
        for (int cost = now.cost[r] + 1; cost < TOP_COST; cost++) {
            if (priceWith(r, cost) != price) {
                return cost - 1;
            }
        }
        return TOP_COST - 1;
    }

    // ---- walks

    public int walk(int z, int n, int what) {
        if (z < 0 || z > 9999 || n < 1 || n > 60 || what < 0 || what > 2) {
            return BAD;
        }
        draft.copyFrom(now);
        int steps = 0;
        for (int k = 0; k < n; k++) {
            int r = draft.choose(drawn(z, k));
            if (r == NO_RULE || draft.heightAfter(r) > STACK) {
                break;
            }
            draft.apply(r);
            steps++;
        }
        if (what == 0) {
            return steps;
        }
        return what == 1 ? draft.height : draft.state;
    }

    // ---- saved states

    public int keep() {
        if (savedCount >= SAVED) {
            return FULL;
        }
        saved[savedCount].copyFrom(now);
        savedCount++;
        return savedCount;
    }

    public int back() {
        if (savedCount == 0) {
            return NO;
        }
        savedCount--;
        now.copyFrom(saved[savedCount]);
        pastCount = 0;
        noteNewRules();
        return savedCount;
    }

    public int count(int what) {
        switch (what) {
            case 0: return now.states;
            case 1: return now.rules;
            case 2: return now.targets;
            case 3: return now.mode;
            case 4: return pastCount;
            case 5: return savedCount;
            case 6: return script.length;
            default: return BAD;
        }
    }

    // ---- helpers of the calls

    private boolean isState(int state) {
        return state >= 0 && state < now.states;
    }

    private boolean isRule(int r) {
        return r >= 0 && r < now.rules;
    }

    private static boolean isLetter(int letter) {
        return letter >= 0 && letter < LETTERS;
    }

    private static boolean isCost(int cost) {
        return cost >= 0 && cost <= TOP_COST;
    }

    /** Is called just before a change of the configuration, the rules or the mode. */
    private void remember() {
        past[pastNext].copyFrom(now);
        pastNext = (pastNext + 1) % PAST;
        if (pastCount < PAST) {
            pastCount++;
        }
        routeFresh = false;
    }

    private void noteNewRules() {
        netFresh = false;
        pacesFresh = false;
        routeFresh = false;
    }

    private void renewNet() {
        if (!netFresh) {
            net.build(now, now.mode, NO_RULE, 0);
            netFresh = true;
        }
    }

    private void renewRoute() {
        if (!pacesFresh) {
            paces.build(now, STEPS, NO_RULE, 0);
            pacesFresh = true;
        }
        if (!routeFresh) {
            route.begin(now, paces);
            routeFresh = true;
        }
    }

    private int priceWith(int r, int cost) {
        trial.build(now, now.mode, r, cost);
        return trial.priceOf(now);
    }

    /** The pseudo-random number d of step k of a walk. */
    private static int drawn(int z, int k) {
        long x = 7919L * z + 6151L * k + 1L;
        return (int) (x * x % 65521L) / 4;
    }

    // A word is held as the number that enter() takes for it.

    private static int wordOf(int first, int second) {
        return 1 + LETTERS + LETTERS * first + second;
    }

    private static int lettersIn(int word) {
        if (word == 0) {
            return 0;
        }
        return word <= LETTERS ? 1 : 2;
    }

    private static int firstLetter(int word) {
        if (word == 0) {
            return NONE;
        }
        return word <= LETTERS ? word - 1 : (word - 1 - LETTERS) / LETTERS;
    }

    private static int secondLetter(int word) {
        return word <= LETTERS ? NONE : (word - 1 - LETTERS) % LETTERS;
    }

    private static int edgeAt(int node, int letter, int to) {
        return (node * LETTERS + letter) * NODES + to;
    }

    /** A system with its present configuration and mode: all that a saved state holds. */
    private static final class Tower {
        int states;
        int rules;
        final int[] from = new int[RULES];
        final int[] top = new int[RULES];
        final int[] into = new int[RULES];
        final int[] word = new int[RULES];
        final int[] cost = new int[RULES];
        int targets;
        final int[] targetState = new int[TARGETS];
        final int[] targetLength = new int[TARGETS];
        final boolean[] targetOpen = new boolean[TARGETS];
        final int[] targetWord = new int[TARGETS * TARGET_LETTERS];
        int mode;
        int state;
        int height;
        // The bottom letter comes first, so that a step touches only the end.
        final int[] stack = new int[STACK];

        void clear() {
            states = 2;
            rules = 0;
            targets = 0;
            mode = 0;
            state = 0;
            height = 0;
        }

        void copyFrom(Tower other) {
            states = other.states;
            rules = other.rules;
            System.arraycopy(other.from, 0, from, 0, RULES);
            System.arraycopy(other.top, 0, top, 0, RULES);
            System.arraycopy(other.into, 0, into, 0, RULES);
            System.arraycopy(other.word, 0, word, 0, RULES);
            System.arraycopy(other.cost, 0, cost, 0, RULES);
            targets = other.targets;
            for (int t = 0; t < TARGETS; t++) {
                targetState[t] = other.targetState[t];
                targetLength[t] = other.targetLength[t];
                targetOpen[t] = other.targetOpen[t];
            }
            System.arraycopy(other.targetWord, 0, targetWord, 0, TARGETS * TARGET_LETTERS);
            mode = other.mode;
            state = other.state;
            height = other.height;
            System.arraycopy(other.stack, 0, stack, 0, STACK);
        }

        boolean addRule(int p, int x, int q, int w, int c) {
            if (rules >= RULES) {
                return false;
            }
            from[rules] = p;
            top[rules] = x;
            into[rules] = q;
            word[rules] = w;
            cost[rules] = c;
            rules++;
            return true;
        }

        void removeRule(int r) {
            for (int i = r; i + 1 < rules; i++) {
                from[i] = from[i + 1];
                top[i] = top[i + 1];
                into[i] = into[i + 1];
                word[i] = word[i + 1];
                cost[i] = cost[i + 1];
            }
            rules--;
        }

        boolean addTarget(int p, int[] letters, int length, boolean open) {
            if (targets >= TARGETS || length > TARGET_LETTERS) {
                return false;
            }
            targetState[targets] = p;
            targetLength[targets] = length;
            targetOpen[targets] = open;
            for (int i = 0; i < length; i++) {
                targetWord[targets * TARGET_LETTERS + i] = letters[i];
            }
            targets++;
            return true;
        }

        void putLetter(int letter) {
            if (height < STACK) {
                stack[height] = letter;
                height++;
            }
        }

        int takeLetter() {
            if (height == 0) {
                return NONE;
            }
            height--;
            return stack[height];
        }

        int rulesFor(int p, int x) {
            int found = 0;
            for (int r = 0; r < rules; r++) {
                if (from[r] == p && top[r] == x) {
                    found++;
                }
            }
            return found;
        }

        boolean applies(int r) {
            return height > 0 && from[r] == state && top[r] == stack[height - 1];
        }

        int heightAfter(int r) {
            return height - 1 + lettersIn(word[r]);
        }

        void apply(int r) {
            takeLetter();
            int w = word[r];
            if (lettersIn(w) == 2) {
                putLetter(secondLetter(w));
            }
            if (lettersIn(w) > 0) {
                putLetter(firstLetter(w));
            }
            state = into[r];
        }

        /** The rule for the configuration that the number d picks; NO_RULE if there is none. */
        int choose(int d) {
            int fitting = height > 0 ? rulesFor(state, stack[height - 1]) : 0;
            if (fitting == 0) {
                return NO_RULE;
            }
            int wanted = d % fitting;
            for (int r = 0; r < rules; r++) {
                if (applies(r)) {
                    if (wanted == 0) {
                        return r;
                    }
                    wanted--;
                }
            }
            return NO_RULE;
        }
    }

    /** The text, and its reading into a system. */
    private static final class Script {
        private final char[] signs = new char[TEXT];
        int length;
        private int at;
        private final int[] letters = new int[TEXT_STACK];

        boolean append(char sign) {
            if (length >= TEXT) {
                return false;
            }
            signs[length] = sign;
            length++;
            return true;
        }

        void clear() {
            length = 0;
        }

        /** Returns the fault of the text, or NONE; what is read is a system only without a fault. */
        int readInto(Tower tower) {
            tower.clear();
            at = 0;
            // Every item takes at least one sign, so there are never more items than signs.
            for (int item = 0; item < TEXT && at < length; item++) {
                int start = at;
                if (!readItem(tower, start == 0)) {
                    return start;
                }
            }
            return NONE;
        }

        private boolean readItem(Tower tower, boolean first) {
            char kind = signs[at];
            at++;
            switch (kind) {
                case 'n': return first && readStates(tower);
                case 'r': return readRule(tower);
                case 't': return readTarget(tower);
                case 'c': return readConfiguration(tower);
                case 'm': return readMode(tower);
                default: return false;
            }
        }

        private boolean readStates(Tower tower) {
            int states = readDigit(STATES + 1);
            if (states < 1 || !readSign(';')) {
                return false;
            }
            tower.states = states;
            return true;
        }

        private boolean readRule(Tower tower) {
            int p = readDigit(tower.states);
            if (p < 0 || !readSign(',')) {
                return false;
            }
            int x = readLetter();
            if (x < 0 || !readSign(',')) {
                return false;
            }
            int q = readDigit(tower.states);
            if (q < 0 || !readSign(',')) {
                return false;
            }
            int word = wordFrom(readWord(2));
            if (!readSign(',')) {
                return false;
            }
            int cost = readDigit(TOP_COST + 1);
            return cost >= 0 && readSign(';') && tower.addRule(p, x, q, word, cost);
        }

        private boolean readTarget(Tower tower) {
            int p = readDigit(tower.states);
            if (p < 0 || !readSign(',')) {
                return false;
            }
            int count = readWord(TARGET_LETTERS);
            boolean open = readSign('.');
            return readSign(';') && tower.addTarget(p, letters, count, open);
        }

        private boolean readConfiguration(Tower tower) {
            int p = readDigit(tower.states);
            if (p < 0 || !readSign(',')) {
                return false;
            }
            int count = readWord(TEXT_STACK);
            if (!readSign(';')) {
                return false;
            }
            tower.state = p;
            tower.height = 0;
            for (int i = count - 1; i >= 0; i--) {
                tower.putLetter(letters[i]);
            }
            return true;
        }

        private boolean readMode(Tower tower) {
            int mode = readDigit(MODES);
            if (mode < 0 || !readSign(';')) {
                return false;
            }
            tower.mode = mode;
            return true;
        }

        private boolean readSign(char sign) {
            if (at >= length || signs[at] != sign) {
                return false;
            }
            at++;
            return true;
        }

        /** Reads a digit below the limit; -1 if there is none. */
        private int readDigit(int limit) {
            if (at >= length || signs[at] < '0' || signs[at] - '0' >= limit) {
                return -1;
            }
            int digit = signs[at] - '0';
            at++;
            return digit;
        }

        private int readLetter() {
            if (at >= length || signs[at] < 'a' || signs[at] - 'a' >= LETTERS) {
                return -1;
            }
            int letter = signs[at] - 'a';
            at++;
            return letter;
        }

        /** Reads letters, at most so many, and returns their number; one more is left to spoil the item. */
        private int readWord(int most) {
            int count = 0;
            for (int i = 0; i < most && i < TEXT_STACK; i++) {
                int letter = readLetter();
                if (letter < 0) {
                    break;
                }
                letters[i] = letter;
                count++;
            }
            return count;
        }

        private int wordFrom(int count) {
            if (count == 0) {
                return 0;
            }
            return count == 1 ? 1 + letters[0] : wordOf(letters[0], letters[1]);
        }
    }

    /** The automaton of a system for a mode, after all rounds. */
    private static final class Net {
        int nodes;
        int firstEdges;
        int edges;
        int rounds;
        // The weight of an edge, FAR if there is none.
        final long[] weights = new long[NODES * LETTERS * NODES];
        private final long[] before = new long[NODES * LETTERS * NODES];
        private final boolean[] accepting = new boolean[NODES];
        private final int[] costs = new int[RULES];
        private boolean worst;
        // Row of the weights by which what is read so far leads to each node.
        private long[] read = new long[NODES];
        private long[] spare = new long[NODES];

        boolean isNode(int node) {
            return node >= 0 && node < nodes;
        }

        /** One rule may be odd: it has the odd cost then, or is LEFT_OUT. */
        void build(Tower tower, int mode, int odd, int oddCost) {
            worst = mode == WORST;
            for (int r = 0; r < tower.rules; r++) {
                int cost = r == odd ? oddCost : tower.cost[r];
                costs[r] = mode == STEPS && cost != LEFT_OUT ? 1 : cost;
            }
            layTargets(tower);
            firstEdges = countEdges();
            System.arraycopy(weights, 0, before, 0, weights.length);
            rounds = 0;
            for (int round = 0; round < ROUNDS && playRound(tower); round++) {
                rounds++;
                // Rules add edges at the nodes of states alone.
                System.arraycopy(weights, 0, before, 0, tower.states * LETTERS * NODES);
            }
            edges = countEdges();
        }

        private void layTargets(Tower tower) {
            int end = tower.states;
            int any = end + 1;
            nodes = any + 1;
            for (int i = 0; i < weights.length; i++) {
                weights[i] = FAR;
            }
            for (int node = 0; node < NODES; node++) {
                accepting[node] = node == end || node == any;
            }
            layAnyLetter(any, any);
            for (int t = 0; t < tower.targets; t++) {
                int last = tower.targetOpen[t] ? any : end;
                int length = tower.targetLength[t];
                int node = tower.targetState[t];
                if (length == 0) {
                    accepting[node] = true;
                    if (tower.targetOpen[t]) {
                        layAnyLetter(node, any);
                    }
                }
                for (int i = 0; i < length; i++) {
                    int to = last;
                    if (i < length - 1) {
                        to = nodes;
                        nodes++;
                    }
                    weights[edgeAt(node, tower.targetWord[t * TARGET_LETTERS + i], to)] = 0;
                    node = to;
                }
            }
        }

        private void layAnyLetter(int node, int to) {
            for (int letter = 0; letter < LETTERS; letter++) {
                weights[edgeAt(node, letter, to)] = 0;
            }
        }

        private int countEdges() {
            int found = 0;
            for (int i = 0; i < weights.length; i++) {
                if (weights[i] < FAR) {
                    found++;
                }
            }
            return found;
        }

        private boolean playRound(Tower tower) {
            boolean changed = false;
            for (int r = 0; r < tower.rules; r++) {
                if (costs[r] != LEFT_OUT) {
                    startAt(tower.into[r]);
                    int word = tower.word[r];
                    if (lettersIn(word) > 0) {
                        readOn(firstLetter(word));
                    }
                    if (lettersIn(word) == 2) {
                        readOn(secondLetter(word));
                    }
                    changed |= drawEdges(edgeAt(tower.from[r], tower.top[r], 0), costs[r]);
                }
            }
            return changed;
        }

        /** Draws edges, the first of which has the given index, to the nodes that the word is read to. */
        private boolean drawEdges(int start, int cost) {
            boolean changed = false;
            for (int to = 0; to < nodes; to++) {
                if (read[to] < FAR) {
                    long weight = joined(cost, read[to]);
                    if (weight < weights[start + to]) {
                        weights[start + to] = weight;
                        changed = true;
                    }
                }
            }
            return changed;
        }

        private long joined(long one, long other) {
            return worst ? Math.max(one, other) : one + other;
        }

        private void startAt(int node) {
            for (int i = 0; i < NODES; i++) {
                read[i] = FAR;
            }
            read[node] = 0;
        }

        /** Reads a letter by the edges from before the round; after all rounds they are all edges. */
        private void readOn(int letter) {
            for (int i = 0; i < NODES; i++) {
                spare[i] = FAR;
            }
            for (int node = 0; node < nodes; node++) {
                if (read[node] < FAR) {
                    int start = edgeAt(node, letter, 0);
                    for (int to = 0; to < nodes; to++) {
                        if (before[start + to] < FAR) {
                            spare[to] = Math.min(spare[to], joined(read[node], before[start + to]));
                        }
                    }
                }
            }
            long[] filled = spare;
            spare = read;
            read = filled;
        }

        /** The smallest weight by which the configuration is accepted; NONE if it is not. */
        int priceOf(Tower tower) {
            startAt(tower.state);
            for (int i = tower.height - 1; i >= 0; i--) {
                readOn(tower.stack[i]);
            }
            long best = FAR;
            for (int node = 0; node < nodes; node++) {
                if (accepting[node]) {
                    best = Math.min(best, read[node]);
                }
            }
            return best < FAR ? (int) best : NONE;
        }

        /** Fills the row of a table with the steps from each node to acceptance by no letters. */
        void fillBottom(long[] table) {
            for (int node = 0; node < NODES; node++) {
                table[node] = accepting[node] ? 0 : FAR;
            }
        }

        /** The fewest steps from a node by a letter and then on by what the row tells. */
        long stepsOver(int node, int letter, long[] table, int row) {
            long best = FAR;
            int start = edgeAt(node, letter, 0);
            for (int to = 0; to < nodes; to++) {
                long rest = table[row * NODES + to];
                if (weights[start + to] < FAR && rest < FAR) {
                    best = Math.min(best, weights[start + to] + rest);
                }
            }
            return best;
        }

        /** The same for two letters. */
        long stepsOverTwo(int node, int letter, int second, long[] table, int row) {
            long best = FAR;
            int start = edgeAt(node, letter, 0);
            for (int to = 0; to < nodes; to++) {
                if (weights[start + to] < FAR) {
                    long rest = stepsOver(to, second, table, row);
                    if (rest < FAR) {
                        best = Math.min(best, weights[start + to] + rest);
                    }
                }
            }
            return best;
        }
    }

    /**
     * The shortest run, made step by step: each time by the first rule that brings the target nearer.
     * It may be long, so only the place that was asked for last is held, not all of it.
     */
    private static final class Route {
        private final int[] letters = new int[HIGH];
        // Row h tells for each node the fewest steps to acceptance over the h lowest letters.
        private final long[] tails = new long[HIGH * NODES];
        private int height;
        private int state;
        private long left;
        private int latest;
        int done;

        void begin(Tower tower, Net paces) {
            height = tower.height;
            state = tower.state;
            done = 0;
            latest = NONE;
            paces.fillBottom(tails);
            for (int i = 0; i < height; i++) {
                letters[i] = tower.stack[i];
                fillTail(i, paces);
            }
            left = tails[height * NODES + state];
        }

        /** Fills the row that counts the letter with this index in. */
        private void fillTail(int index, Net paces) {
            for (int node = 0; node < paces.nodes; node++) {
                tails[(index + 1) * NODES + node] = paces.stepsOver(node, letters[index], tails, index);
            }
        }

        int steps() {
            return left < FAR ? (int) (done + left) : NONE;
        }

        /** The rule of step k, which may be the last one that is done, or one after it. */
        int ruleAt(int k, Tower tower, Net paces) {
            for (int i = done; i <= k; i++) {
                latest = advance(tower, paces);
            }
            return latest;
        }

        private int advance(Tower tower, Net paces) {
            if (height == 0 || height + 2 >= HIGH) {
                return NONE;
            }
            for (int r = 0; r < tower.rules; r++) {
                if (tower.from[r] == state && tower.top[r] == letters[height - 1]
                        && stepsAfter(tower.into[r], tower.word[r], paces) == left - 1) {
                    replaceTop(tower.word[r], paces);
                    state = tower.into[r];
                    left--;
                    done++;
                    return r;
                }
            }
            return NONE;
        }

        private long stepsAfter(int next, int word, Net paces) {
            int below = height - 1;
            switch (lettersIn(word)) {
                case 0: return tails[below * NODES + next];
                case 1: return paces.stepsOver(next, firstLetter(word), tails, below);
                default: return paces.stepsOverTwo(next, firstLetter(word), secondLetter(word), tails, below);
            }
        }

        private void replaceTop(int word, Net paces) {
            height--;
            if (lettersIn(word) == 2) {
                letters[height] = secondLetter(word);
                fillTail(height, paces);
                height++;
            }
            // The row with the top letter is never asked for.
            if (lettersIn(word) > 0) {
                letters[height] = firstLetter(word);
                height++;
            }
        }
    }

    /** The heads and the states with an empty stack that can be reached, however high the stack grows. */
    private static final class Reach {
        // For each head the set of the states in which its letter can be gone.
        private final int[] falls = new int[HEADS];
        private int headSet;
        int bottoms;

        boolean hasHead(int state, int letter) {
            return (headSet >> (state * LETTERS + letter) & 1) == 1;
        }

        void explore(Tower tower) {
            settleFalls(tower);
            descend(tower);
            boolean grown = true;
            for (int round = 0; round < ROUNDS && grown; round++) {
                grown = spread(tower);
            }
        }

        private void settleFalls(Tower tower) {
            for (int head = 0; head < HEADS; head++) {
                falls[head] = 0;
            }
            boolean grown = true;
            for (int round = 0; round < ROUNDS && grown; round++) {
                grown = false;
                for (int r = 0; r < tower.rules; r++) {
                    int head = tower.from[r] * LETTERS + tower.top[r];
                    int more = falls[head] | afterWord(tower.into[r], tower.word[r]);
                    grown |= more != falls[head];
                    falls[head] = more;
                }
            }
        }

        private int afterWord(int state, int word) {
            int set = 1 << state;
            if (lettersIn(word) > 0) {
                set = afterLetter(set, firstLetter(word));
            }
            return lettersIn(word) == 2 ? afterLetter(set, secondLetter(word)) : set;
        }

        /** The states in which the letter is gone, if it is the top one in one of these states. */
        private int afterLetter(int set, int letter) {
            int after = 0;
            for (int state = 0; state < STATES; state++) {
                if ((set >> state & 1) == 1) {
                    after |= falls[state * LETTERS + letter];
                }
            }
            return after;
        }

        /** Goes down the stack of the configuration as far as its letters can be gone. */
        private void descend(Tower tower) {
            headSet = 0;
            int set = 1 << tower.state;
            for (int i = tower.height - 1; i >= 0; i--) {
                headSet |= headsOf(set, tower.stack[i]);
                set = afterLetter(set, tower.stack[i]);
            }
            bottoms = set;
        }

        private static int headsOf(int set, int letter) {
            int found = 0;
            for (int state = 0; state < STATES; state++) {
                if ((set >> state & 1) == 1) {
                    found |= 1 << (state * LETTERS + letter);
                }
            }
            return found;
        }

        private boolean spread(Tower tower) {
            int known = headSet;
            for (int r = 0; r < tower.rules; r++) {
                int word = tower.word[r];
                if (hasHead(tower.from[r], tower.top[r]) && lettersIn(word) > 0) {
                    int set = 1 << tower.into[r];
                    headSet |= headsOf(set, firstLetter(word));
                    if (lettersIn(word) == 2) {
                        headSet |= headsOf(afterLetter(set, firstLetter(word)), secondLetter(word));
                    }
                }
            }
            return headSet != known;
        }
    }
}
