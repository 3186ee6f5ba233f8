import java.util.ArrayDeque;
import java.util.Deque;
import java.util.HashMap;
import java.util.LinkedHashMap;
import java.util.List;
import java.util.Map;
import java.util.PriorityQueue;
import java.util.Random;

/**
 * Random calls, each answered by the class and by the oracle; and random small systems whose configurations
 * are searched one by one, without any automaton. The seeds are fixed: each run of the test does the same.
 */
final class OracleTest {
    private static final Check CHECK = new Check();
    private static final int BOUND = 10;

    private final Random random;
    private final CallTowers towers = new CallTowers();
    private final Oracle oracle = new Oracle();
    private final StringBuilder story = new StringBuilder();

    private OracleTest(int seed) {
        random = new Random(seed);
    }

    public static void main(String[] args) {
        int scale = args.length > 0 ? Integer.parseInt(args[0]) : 1;
        int first = args.length > 1 ? Integer.parseInt(args[1]) : 0;
        for (int seed = first; seed < first + 250 * scale; seed++) {
            new OracleTest(seed).play();
        }
        for (int seed = first; seed < first + 150 * scale; seed++) {
            new OracleTest(seed).ask();
        }
        for (int seed = first; seed < first + 50 * scale; seed++) {
            new OracleTest(seed).askLargest(seed % 25 == 0);
        }
        for (int seed = first; seed < first + 1500 * scale; seed++) {
            new OracleTest(seed).search();
        }
        CHECK.end("OracleTest");
    }

    // ---- random calls

    private void play() {
        int calls = 0;
        if (random.nextInt(6) > 0) {
            calls += layRandom();
        }
        for (; calls < 512; calls++) {
            one();
            if (random.nextInt(150) == 0 && calls < 300) {
                calls += layRandom();
            }
        }
    }

    private int layRandom() {
        String text = systemText();
        if (random.nextInt(4) == 0) {
            text = spoiled(text);
        }
        same("wipe");
        for (char letter : text.toCharArray()) {
            same("write", letter);
        }
        same("fault");
        same("lay");
        return text.length() + 3;
    }

    private void same(String name, int... args) {
        StringBuilder call = new StringBuilder(name).append("(");
        for (int i = 0; i < args.length; i++) {
            call.append(i == 0 ? "" : ", ").append(args[i]);
        }
        call.append(")");
        int want = oracle.call(name, args);
        int got = answer(name, args);
        story.append(call).append(" = ").append(want).append("; ");
        CHECK.same(got == want ? "" : story.toString(), got, want);
    }

    private int answer(String name, int... a) {
        switch (name) {
            case "write": return towers.write(a[0]);
            case "wipe": return towers.wipe();
            case "fault": return towers.fault();
            case "lay": return towers.lay();
            case "rule": return towers.rule(a[0], a[1]);
            case "target": return towers.target(a[0], a[1]);
            case "stack": return towers.stack(a[0]);
            case "push": return towers.push(a[0]);
            case "pop": return towers.pop();
            case "step": return towers.step(a[0]);
            case "go": return towers.go(a[0]);
            case "enter": return towers.enter(a[0], a[1], a[2], a[3], a[4]);
            case "drop": return towers.drop(a[0]);
            case "weigh": return towers.weigh(a[0], a[1]);
            case "mode": return towers.mode(a[0]);
            case "undo": return towers.undo();
            case "price": return towers.price();
            case "run": return towers.run(a[0]);
            case "heads": return towers.heads(a[0], a[1]);
            case "empty": return towers.empty(a[0]);
            case "stuck": return towers.stuck();
            case "edge": return towers.edge(a[0], a[1], a[2]);
            case "automaton": return towers.automaton(a[0]);
            case "needed": return towers.needed();
            case "dear": return towers.dear(a[0]);
            case "walk": return towers.walk(a[0], a[1], a[2]);
            case "keep": return towers.keep();
            case "back": return towers.back();
            case "count": return towers.count(a[0]);
            default: throw new IllegalStateException(name);
        }
    }

    /** A number in the range, and now and then one beside it. */
    private int near(int from, int to) {
        if (random.nextInt(25) == 0) {
            int[] odd = {from - 1, to + 1, Integer.MIN_VALUE, Integer.MAX_VALUE, -random.nextInt(100), random.nextInt(10000)};
            return odd[random.nextInt(odd.length)];
        }
        return from + random.nextInt(to - from + 1);
    }

    private void one() {
        int states = towers.count(0) - 1;
        int rules = towers.count(1) - 1;
        switch (random.nextInt(36)) {
            case 0: same("write", near(32, 126)); break;
            case 1: same(random.nextInt(3) == 0 ? "wipe" : "fault"); break;
            case 2: same(random.nextInt(5) == 0 ? "lay" : "keep"); break;
            case 3: same("rule", near(0, rules), near(0, 6)); break;
            case 4: same("target", near(0, 3), near(0, 5)); break;
            case 5: same("stack", near(-2, 12)); break;
            case 6: case 7: same("push", random.nextInt(3) == 0 ? near(0, 3) : towers.rule(random.nextInt(rules + 1), 1)); break;
            case 8: case 9: same("pop"); break;
            case 10: case 11: case 12: case 13: same("step", random.nextInt(3) == 0 ? near(0, rules) : fittingRule()); break;
            case 14: same("go", near(0, states)); break;
            case 15: case 16:
                same("enter", near(0, states), near(0, 3), near(0, states), near(0, 20), near(0, 9)); break;
            case 17: same("drop", near(0, rules)); break;
            case 18: same("weigh", near(0, rules), near(0, 9)); break;
            case 19: same("mode", near(0, 2)); break;
            case 20: case 21: same("undo"); break;
            case 22: case 23: same("price"); break;
            case 24: case 25: same("run", near(-1, random.nextBoolean() ? 3 : 30)); break;
            case 26: same("heads", near(0, states), near(0, 3)); break;
            case 27: same("empty", near(0, states)); break;
            case 28: same("stuck"); break;
            case 29: case 30: same("edge", near(0, 6), near(0, 3), near(0, 6)); break;
            case 31: same("automaton", near(0, 3)); break;
            case 32: same("needed"); break;
            case 33: same("dear", near(0, rules)); break;
            case 34: same("walk", near(0, 9999), near(1, 60), near(0, 2)); break;
            default:
                if (random.nextInt(3) == 0) {
                    same("back");
                } else {
                    same("count", near(0, 6));
                }
        }
    }

    private int fittingRule() {
        int start = random.nextInt(towers.count(1));
        for (int i = 0; i < towers.count(1); i++) {
            int r = (start + i) % towers.count(1);
            if (Oracle.after(oracle.sys().config(), oracle.sys().rules().get(r)) != null) {
                return r;
            }
        }
        return start;
    }

    // ---- random texts

    private String word(int most, int letters) {
        StringBuilder word = new StringBuilder();
        for (int i = random.nextInt(most + 1); i > 0; i--) {
            word.append((char) ('a' + random.nextInt(letters)));
        }
        return word.toString();
    }

    /** Few letters, many rules, and often a target with an empty stack: then runs are long and have rivals. */
    private String systemText() {
        int n = 1 + random.nextInt(3);
        int letters = 1 + random.nextInt(4);
        int costs = 1 + random.nextInt(10);
        StringBuilder text = new StringBuilder("n" + n + ";");
        for (int i = random.nextInt(4) == 0 ? 1 + random.nextInt(10) : 7 + random.nextInt(4); i > 0; i--) {
            text.append("r").append(random.nextInt(n)).append(",").append((char) ('a' + random.nextInt(letters))).append(",")
                .append(random.nextInt(n)).append(",").append(word(2, letters)).append(",").append(random.nextInt(costs))
                .append(";");
        }
        for (int i = random.nextInt(8) == 0 ? random.nextInt(5) : 1; i > 0; i--) {
            boolean open = random.nextInt(3) == 0;
            text.append("t").append(random.nextInt(n)).append(",").append(random.nextInt(3) > 0 && !open ? "" : word(3, letters))
                .append(open ? ".;" : ";");
        }
        text.append("c").append(random.nextInt(n)).append(",").append(word(6, letters)).append(";");
        text.append("m").append(random.nextInt(3)).append(";");
        return text.toString();
    }

    /** Most words have letters, so that the words are read on from node to node. */
    private String largestText() {
        StringBuilder text = new StringBuilder("n3;");
        for (int i = 0; i < 10; i++) {
            String word = random.nextInt(3) == 0 ? "" : word(2, 4);
            text.append("r").append(random.nextInt(3)).append(",").append((char) ('a' + random.nextInt(4))).append(",")
                .append(random.nextInt(3)).append(",").append(word).append(",").append(random.nextInt(10)).append(";");
        }
        for (int t = 0; t < 4; t++) {
            text.append("t").append(random.nextInt(3)).append(",");
            for (int i = 0; i < 3; i++) {
                text.append((char) ('a' + random.nextInt(4)));
            }
            text.append(random.nextBoolean() ? ".;" : ";");
        }
        return text.append("c").append(random.nextInt(3)).append(",").append(word(6, 4)).append(";").toString();
    }

    private String spoiled(String text) {
        int at = random.nextInt(text.length());
        String signs = "nrtcm0123456789,,;;..abcde ";
        char sign = signs.charAt(random.nextInt(signs.length()));
        switch (random.nextInt(3)) {
            case 0: return text.substring(0, at) + text.substring(at + 1);
            case 1: return text.substring(0, at) + sign + text.substring(at);
            default: return text.substring(0, at) + sign + text.substring(at + 1);
        }
    }

    // ---- every question about one system, in each mode

    private void ask() {
        String text = "";
        for (int i = 0; i < 30 && (i == 0 || oracle.call("price") < 1); i++) {
            text = systemText();
            oracle.call("wipe");
            for (char letter : text.toCharArray()) {
                oracle.call("write", letter);
            }
            oracle.call("lay");
        }
        askInEachMode(text, true);
    }

    /** The most states, rules and targets, and the longest words: no automaton has more nodes. */
    private void askLargest(boolean edges) {
        String text = "";
        for (int i = 0; i < 100 && (i == 0 || oracle.call("price") < 1); i++) {
            text = largestText();
            oracle.call("wipe");
            for (char letter : text.toCharArray()) {
                oracle.call("write", letter);
            }
            oracle.call("lay");
        }
        askInEachMode(text, edges);
        CHECK.same(text + ": the largest automaton", towers.automaton(0), 13);
    }

    private void askInEachMode(String text, boolean edges) {
        Check.type(towers, text);
        towers.lay();
        story.append(text).append(": ");
        for (int i = 0; i < 3; i++) {
            same("mode", (towers.count(3) + 1) % 3);
            story.setLength(text.length() + 2);
            story.append("mode(").append(towers.count(3)).append("); ");
            askFigures();
            if (edges) {
                askEdges();
            }
        }
    }

    private void askFigures() {
        int length = story.length();
        for (String name : List.of("price", "stuck", "needed")) {
            same(name);
        }
        for (int r = 0; r < towers.count(1); r++) {
            same("dear", r);
        }
        for (int k = Math.min(towers.run(-1), 40); k >= -1; k--) {
            same("run", k);
        }
        for (int k = 0; k < Math.min(towers.run(-1), 40); k++) {
            same("run", k);
        }
        for (int what = 0; what < 4; what++) {
            same("automaton", what);
        }
        story.setLength(length);
    }

    private void askEdges() {
        int length = story.length();
        for (int letter = 0; letter < 4; letter++) {
            for (int node = 0; node <= towers.automaton(0); node++) {
                for (int to = 0; to <= towers.automaton(0); to++) {
                    same("edge", node, letter, to);
                }
                same("heads", node, letter);
                same("empty", node);
            }
            story.setLength(length);
        }
    }

    // ---- search without an automaton

    /** All configurations that are reached by steps, in the order of their distance, with stacks up to the bound. */
    private boolean whole;

    private Map<Oracle.Config, Integer> reached(Oracle.Sys sys) {
        Map<Oracle.Config, Integer> found = new LinkedHashMap<>();
        Deque<Oracle.Config> open = new ArrayDeque<>();
        whole = true;
        found.put(sys.config(), 0);
        open.add(sys.config());
        while (!open.isEmpty()) {
            Oracle.Config config = open.remove();
            for (Oracle.Rule rule : sys.rules()) {
                Oracle.Config next = Oracle.after(config, rule);
                if (next != null && (next.stack().length() > BOUND || found.size() >= 4000)) {
                    whole = false;
                } else if (next != null && !found.containsKey(next)) {
                    found.put(next, found.get(config) + 1);
                    open.add(next);
                }
            }
        }
        return found;
    }

    private static boolean isTarget(Oracle.Sys sys, Oracle.Config config) {
        return sys.targets().stream().anyMatch(t -> t.p() == config.state()
            && (t.open() ? config.stack().startsWith(t.w()) : config.stack().equals(t.w())));
    }

    /** The cheapest way from the configuration to a target among those that were reached; -4 if there is none. */
    private static int cheapest(Oracle.Sys sys, Map<Oracle.Config, Integer> among, Oracle.Config start, int mode) {
        Map<Oracle.Config, Integer> best = new HashMap<>();
        PriorityQueue<Map.Entry<Oracle.Config, Integer>> open = new PriorityQueue<>(Map.Entry.comparingByValue());
        open.add(Map.entry(start, 0));
        while (!open.isEmpty()) {
            Map.Entry<Oracle.Config, Integer> entry = open.remove();
            if (best.containsKey(entry.getKey())) {
                continue;
            }
            best.put(entry.getKey(), entry.getValue());
            if (isTarget(sys, entry.getKey())) {
                return entry.getValue();
            }
            for (Oracle.Rule rule : sys.rules()) {
                Oracle.Config next = Oracle.after(entry.getKey(), rule);
                if (next != null && among.containsKey(next)) {
                    int cost = mode == 2 ? Math.max(entry.getValue(), rule.cost())
                        : entry.getValue() + (mode == 1 ? 1 : rule.cost());
                    open.add(Map.entry(next, cost));
                }
            }
        }
        return CallTowers.NONE;
    }

    private void search() {
        String text = systemText();
        Check.type(towers, text);
        for (char letter : text.toCharArray()) {
            oracle.call("write", letter);
        }
        if (text.length() > 200) {
            return;
        }
        CHECK.same(text + ": lay()", towers.lay(), oracle.call("lay"));
        Oracle.Sys sys = oracle.sys();
        Map<Oracle.Config, Integer> found = reached(sys);
        searchHeads(text, sys, found);
        int price = towers.price();
        int searched = cheapest(sys, found, sys.config(), sys.mode());
        if (whole) {
            CHECK.same(text + ": price() by search", price, searched);
        } else if (searched >= 0) {
            CHECK.holds(text + ": price() = " + price + " by search " + searched, price >= 0 && price <= searched);
        }
        searchRun(text, sys, found);
    }

    private void searchHeads(String text, Oracle.Sys sys, Map<Oracle.Config, Integer> found) {
        for (int p = 0; p < sys.n(); p++) {
            for (int x = 0; x < 4; x++) {
                int state = p;
                String letter = "" + (char) ('a' + x);
                boolean seen = found.keySet().stream().anyMatch(c -> c.state() == state && c.stack().startsWith(letter));
                if (seen || whole) {
                    CHECK.same(text + ": heads(" + p + ", " + x + ") by search", towers.heads(p, x), seen ? 1 : 0);
                }
            }
            boolean seen = found.containsKey(new Oracle.Config(p, ""));
            if (seen || whole) {
                CHECK.same(text + ": empty(" + p + ") by search", towers.empty(p), seen ? 1 : 0);
            }
        }
    }

    /** Follows the run that the class tells; at each step no smaller rule may lead on in as few steps. */
    private void searchRun(String text, Oracle.Sys sys, Map<Oracle.Config, Integer> found) {
        int steps = towers.run(-1);
        int searched = cheapest(sys, found, sys.config(), 1);
        if (whole) {
            CHECK.same(text + ": run(-1) by search", steps, searched);
        }
        Oracle.Config config = sys.config();
        for (int k = 0; k < steps && k < 200; k++) {
            int r = towers.run(k);
            CHECK.holds(text + ": run(" + k + ") is a rule", r >= 0 && r < sys.rules().size());
            Oracle.Config next = Oracle.after(config, sys.rules().get(r));
            CHECK.holds(text + ": run(" + k + ") can be made", next != null);
            for (int smaller = 0; smaller < r && whole; smaller++) {
                Oracle.Config other = Oracle.after(config, sys.rules().get(smaller));
                int on = other == null ? CallTowers.NONE : cheapest(sys, found, other, 1);
                CHECK.holds(text + ": run(" + k + ") is the smallest", on < 0 || on > steps - k - 1);
            }
            config = next;
        }
        if (steps >= 0 && steps <= 200) {
            CHECK.holds(text + ": the run ends at a target", isTarget(sys, config));
        }
        CHECK.same(text + ": the run is over", towers.run(Math.max(steps, 0)), CallTowers.NONE);
        List<Integer> places = List.of(steps - 1, 0, steps / 2, steps / 3);
        for (int k : places) {
            if (k >= 0 && k < Math.min(steps, 60)) {
                CHECK.same(text + ": run(" + k + ") again", towers.run(k), oracle.call("run", k));
            }
        }
    }
}
