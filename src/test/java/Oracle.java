import java.util.ArrayDeque;
import java.util.ArrayList;
import java.util.Deque;
import java.util.HashMap;
import java.util.HashSet;
import java.util.List;
import java.util.Map;
import java.util.Set;
import java.util.function.ToIntFunction;
import java.util.regex.Matcher;
import java.util.regex.Pattern;

/** A second program for the document, written as plainly as its words allow, without regard to speed. */
final class Oracle {
    record Rule(int p, char x, int q, String w, int cost) { }

    record Target(int p, String w, boolean open) { }

    record Config(int state, String stack) { }

    record Edge(int node, char letter, int to) { }

    record Sys(int n, List<Rule> rules, List<Target> targets, int mode, Config config) {
        Sys with(List<Rule> others) {
            return new Sys(n, others, targets, mode, config);
        }

        Sys with(Config other) {
            return new Sys(n, rules, targets, mode, other);
        }

        Sys inMode(int other) {
            return new Sys(n, rules, targets, other, config);
        }

        Sys aiming(List<Target> others) {
            return new Sys(n, rules, others, mode, config);
        }
    }

    /** The automaton of a system. */
    static final class Automaton {
        final int nodes;
        final int first;
        final int rounds;
        final Map<Edge, Integer> edges;
        private final Sys sys;
        private final Set<Integer> accepting = new HashSet<>();

        Automaton(Sys sys) {
            this.sys = sys;
            Map<Edge, Integer> present = new HashMap<>();
            int end = sys.n;
            int any = sys.n + 1;
            int last = any;
            accepting.add(end);
            accepting.add(any);
            for (char letter = 'a'; letter <= 'd'; letter++) {
                present.put(new Edge(any, letter, any), 0);
            }
            for (Target target : sys.targets) {
                int node = target.p;
                if (target.w.isEmpty()) {
                    accepting.add(node);
                    for (char letter = 'a'; letter <= 'd' && target.open; letter++) {
                        present.put(new Edge(node, letter, any), 0);
                    }
                }
                for (int i = 0; i < target.w.length(); i++) {
                    boolean over = i == target.w.length() - 1;
                    int to = !over ? ++last : target.open ? any : end;
                    present.put(new Edge(node, target.w.charAt(i), to), 0);
                    node = to;
                }
            }
            nodes = last + 1;
            first = present.size();
            int count = 0;
            Map<Edge, Integer> next = round(present);
            while (!next.equals(present)) {
                count++;
                present = next;
                next = round(present);
            }
            rounds = count;
            edges = present;
        }

        private Map<Edge, Integer> round(Map<Edge, Integer> before) {
            Map<Edge, Integer> after = new HashMap<>(before);
            for (Rule rule : sys.rules) {
                read(before, rule.q, rule.w).forEach((to, weight) ->
                    after.merge(new Edge(rule.p, rule.x, to), join(sys.mode == 1 ? 1 : rule.cost, weight), Math::min));
            }
            return after;
        }

        private int join(int one, int other) {
            return sys.mode == 2 ? Math.max(one, other) : one + other;
        }

        private Map<Integer, Integer> read(Map<Edge, Integer> table, int node, String word) {
            Map<Integer, Integer> at = new HashMap<>();
            at.put(node, 0);
            for (char letter : word.toCharArray()) {
                Map<Integer, Integer> next = new HashMap<>();
                at.forEach((from, weight) -> {
                    for (int to = 0; to < 13; to++) {
                        Integer edge = table.get(new Edge(from, letter, to));
                        if (edge != null) {
                            next.merge(to, join(weight, edge), Math::min);
                        }
                    }
                });
                at = next;
            }
            return at;
        }

        int price(Config config) {
            return read(edges, config.state, config.stack).entrySet().stream().filter(e -> accepting.contains(e.getKey()))
                .mapToInt(Map.Entry::getValue).min().orElse(CallTowers.NONE);
        }
    }

    private static final Pattern ITEM = Pattern.compile("n([123]);|r(\\d),([abcd]),(\\d),([abcd]{0,2}),(\\d);"
        + "|t(\\d),([abcd]{0,3})(\\.?);|c(\\d),([abcd]{0,6});|m([012]);");
    static final String FIRST =
        "n2;r0,a,0,ba,2;r0,b,1,,1;r1,a,1,,3;r1,b,0,b,0;r1,a,0,c,5;r0,c,0,cc,1;r0,c,1,,4;t1,;t0,cc.;c0,aa;m0;";

    private String text = FIRST;
    private Sys sys;
    private int faultAt;
    private final Deque<Sys> past = new ArrayDeque<>();
    private final Deque<Sys> saved = new ArrayDeque<>();
    private final Map<Sys, Automaton> built = new HashMap<>();

    Oracle() {
        sys = parse();
        text = "";
    }

    Sys sys() {
        return sys;
    }

    /** Reads the text; notes its fault. */
    private Sys parse() {
        int n = 2;
        int mode = 0;
        Config config = new Config(0, "");
        List<Rule> rules = new ArrayList<>();
        List<Target> targets = new ArrayList<>();
        Matcher item = ITEM.matcher(text);
        int at = 0;
        faultAt = CallTowers.NONE;
        while (at < text.length()) {
            boolean good = item.find(at) && item.start() == at;
            if (good && item.group(1) != null) {
                good = at == 0;
                n = Integer.parseInt(item.group(1));
            } else if (good && item.group(2) != null) {
                rules.add(new Rule(Integer.parseInt(item.group(2)), item.group(3).charAt(0), Integer.parseInt(item.group(4)),
                    item.group(5), Integer.parseInt(item.group(6))));
                Rule rule = rules.get(rules.size() - 1);
                good = rule.p < n && rule.q < n && rules.size() <= 10;
            } else if (good && item.group(7) != null) {
                targets.add(new Target(Integer.parseInt(item.group(7)), item.group(8), !item.group(9).isEmpty()));
                good = targets.get(targets.size() - 1).p < n && targets.size() <= 4;
            } else if (good && item.group(10) != null) {
                config = new Config(Integer.parseInt(item.group(10)), item.group(11));
                good = config.state < n;
            } else if (good) {
                mode = Integer.parseInt(item.group(12));
            }
            if (!good) {
                faultAt = at;
                return null;
            }
            at = item.end();
        }
        return new Sys(n, rules, targets, mode, config);
    }

    private Automaton automatonOf(Sys of) {
        return built.computeIfAbsent(of.with(new Config(0, "")), Automaton::new);
    }

    private int priceOf(Sys of) {
        return automatonOf(of).price(of.config);
    }

    private int change(Sys next, ToIntFunction<Sys> answer) {
        past.push(sys);
        if (past.size() > 8) {
            past.removeLast();
        }
        Sys before = sys;
        sys = next;
        return answer.applyAsInt(before);
    }

    private boolean noRule(int r) {
        return r < 0 || r >= sys.rules.size();
    }

    private boolean noState(int state) {
        return state < 0 || state >= sys.n;
    }

    private static boolean noLetter(int letter) {
        return letter < 0 || letter > 3;
    }

    /** The configuration after a rule; null if it is no rule for it. */
    static Config after(Config config, Rule rule) {
        if (config.stack.isEmpty() || rule.p != config.state || rule.x != config.stack.charAt(0)) {
            return null;
        }
        return new Config(rule.q, rule.w + config.stack.substring(1));
    }

    int call(String name, int... a) {
        built.clear();
        switch (name) {
            case "write": return write(a[0]);
            case "wipe": return wipe();
            case "fault": parse(); return faultAt;
            case "lay": return lay();
            case "rule": return rule(a[0], a[1]);
            case "target": return target(a[0], a[1]);
            case "stack": return stack(a[0]);
            case "push": return push(a[0]);
            case "pop": return pop();
            case "step": return step(a[0]);
            case "go": return go(a[0]);
            case "enter": return enter(a[0], a[1], a[2], a[3], a[4]);
            case "drop": return drop(a[0]);
            case "weigh": return weigh(a[0], a[1]);
            case "mode": return mode(a[0]);
            case "undo": return undo();
            case "price": return priceOf(sys);
            case "run": return run(a[0]);
            case "heads": return noState(a[0]) || noLetter(a[1]) ? -1 : head(a[0], "" + (char) ('a' + a[1]), true);
            case "empty": return noState(a[0]) ? -1 : head(a[0], "", false);
            case "stuck": return stuck();
            case "edge": return edge(a[0], a[1], a[2]);
            case "automaton": return automaton(a[0]);
            case "needed": return needed();
            case "dear": return dear(a[0]);
            case "walk": return walk(a[0], a[1], a[2]);
            case "keep": return keep();
            case "back": return back();
            case "count": return count(a[0]);
            default: throw new IllegalStateException(name);
        }
    }

    private int write(int letter) {
        if (letter < 32 || letter > 126) {
            return -1;
        }
        if (text.length() == 200) {
            return -3;
        }
        text += (char) letter;
        return text.length();
    }

    private int wipe() {
        int length = text.length();
        text = "";
        return length;
    }

    private int lay() {
        Sys read = parse();
        if (read == null || read.rules.isEmpty()) {
            return -2;
        }
        sys = read;
        past.clear();
        saved.clear();
        return sys.rules.size();
    }

    private int rule(int r, int what) {
        if (noRule(r) || what < 0 || what > 6) {
            return -1;
        }
        Rule rule = sys.rules.get(r);
        int[] first = {rule.p, rule.x - 'a', rule.q, rule.w.length(), -4, -4, rule.cost};
        for (int i = 0; i < rule.w.length(); i++) {
            first[4 + i] = rule.w.charAt(i) - 'a';
        }
        return first[what];
    }

    private int target(int t, int what) {
        if (t < 0 || t >= sys.targets.size() || what < 0 || what > 5) {
            return -1;
        }
        Target target = sys.targets.get(t);
        int[] parts = {target.p, target.w.length(), target.open ? 1 : 0, -4, -4, -4};
        for (int i = 0; i < target.w.length(); i++) {
            parts[3 + i] = target.w.charAt(i) - 'a';
        }
        return parts[what];
    }

    private int stack(int k) {
        String letters = sys.config.stack;
        return k < -2 ? -1 : k == -2 ? sys.config.state : k == -1 ? letters.length()
            : k < letters.length() ? letters.charAt(k) - 'a' : -4;
    }

    private int push(int letter) {
        if (noLetter(letter)) {
            return -1;
        }
        String letters = (char) ('a' + letter) + sys.config.stack;
        return letters.length() > 12 ? -3
            : change(sys.with(new Config(sys.config.state, letters)), before -> letters.length());
    }

    private int pop() {
        String letters = sys.config.stack;
        return letters.isEmpty() ? -2
            : change(sys.with(new Config(sys.config.state, letters.substring(1))), before -> letters.charAt(0) - 'a');
    }

    private int step(int r) {
        if (noRule(r)) {
            return -1;
        }
        Config next = after(sys.config, sys.rules.get(r));
        if (next == null) {
            return -2;
        }
        return next.stack.length() > 12 ? -3 : change(sys.with(next), before -> next.stack.length());
    }

    private int go(int state) {
        if (noState(state)) {
            return -1;
        }
        return state == sys.config.state ? -2
            : change(sys.with(new Config(state, sys.config.stack)), before -> before.config.state);
    }

    private int enter(int p, int x, int q, int word, int cost) {
        if (noState(p) || noLetter(x) || noState(q) || word < 0 || word > 20 || cost < 0 || cost > 9) {
            return -1;
        }
        if (sys.rules.size() == 10) {
            return -3;
        }
        List<String> words = new ArrayList<>(List.of(""));
        for (char u = 'a'; u <= 'd'; u++) {
            words.add("" + u);
        }
        for (char u = 'a'; u <= 'd'; u++) {
            for (char v = 'a'; v <= 'd'; v++) {
                words.add("" + u + v);
            }
        }
        List<Rule> rules = new ArrayList<>(sys.rules);
        rules.add(new Rule(p, (char) ('a' + x), q, words.get(word), cost));
        return change(sys.with(rules), before -> before.rules.size());
    }

    private List<Rule> without(int r) {
        List<Rule> rules = new ArrayList<>(sys.rules);
        rules.remove(r);
        return rules;
    }

    private List<Rule> reweighed(int r, int cost) {
        List<Rule> rules = new ArrayList<>(sys.rules);
        Rule old = rules.get(r);
        rules.set(r, new Rule(old.p, old.x, old.q, old.w, cost));
        return rules;
    }

    private int drop(int r) {
        return noRule(r) ? -1 : sys.rules.size() == 1 ? -2
            : change(sys.with(without(r)), before -> before.rules.size() - 1);
    }

    private int weigh(int r, int cost) {
        if (noRule(r) || cost < 0 || cost > 9) {
            return -1;
        }
        int old = sys.rules.get(r).cost;
        return old == cost ? -2 : change(sys.with(reweighed(r, cost)), before -> old);
    }

    private int mode(int m) {
        return m < 0 || m > 2 ? -1 : m == sys.mode ? -2 : change(sys.inMode(m), before -> before.mode);
    }

    private int undo() {
        if (past.isEmpty()) {
            return -2;
        }
        sys = past.pop();
        return past.size();
    }

    private int run(int k) {
        if (k < -1) {
            return -1;
        }
        Sys steps = sys.inMode(1);
        int left = priceOf(steps);
        if (k == -1 || left < 0 || k >= left) {
            return k == -1 ? left : -4;
        }
        int latest = -4;
        Config config = sys.config;
        for (int i = 0; i <= k; i++) {
            left--;
            for (int r = 0; ; r++) {
                Config next = after(config, sys.rules.get(r));
                if (next != null && priceOf(steps.with(next)) == left) {
                    latest = r;
                    config = next;
                    break;
                }
            }
        }
        return latest;
    }

    private int head(int state, String letters, boolean open) {
        return priceOf(sys.aiming(List.of(new Target(state, letters, open)))) >= 0 ? 1 : 0;
    }

    private int stuck() {
        int count = 0;
        for (int p = 0; p < sys.n; p++) {
            count += head(p, "", false);
            for (char x = 'a'; x <= 'd'; x++) {
                Config top = new Config(p, "" + x);
                if (head(p, "" + x, true) == 1 && sys.rules.stream().allMatch(rule -> after(top, rule) == null)) {
                    count++;
                }
            }
        }
        return count;
    }

    private int edge(int node, int letter, int to) {
        Automaton automaton = automatonOf(sys);
        if (node < 0 || node >= automaton.nodes || noLetter(letter) || to < 0 || to >= automaton.nodes) {
            return -1;
        }
        return automaton.edges.getOrDefault(new Edge(node, (char) ('a' + letter), to), -4);
    }

    private int automaton(int what) {
        Automaton automaton = automatonOf(sys);
        return what == 0 ? automaton.nodes : what == 1 ? automaton.first : what == 2 ? automaton.edges.size()
            : what == 3 ? automaton.rounds : -1;
    }

    private int needed() {
        int set = 0;
        for (int r = 0; r < sys.rules.size() && priceOf(sys) >= 0; r++) {
            set += priceOf(sys.with(without(r))) < 0 ? 1 << r : 0;
        }
        return set;
    }

    private int dear(int r) {
        if (noRule(r)) {
            return -1;
        }
        int greatest = -4;
        for (int cost = 0; cost <= 9 && priceOf(sys) >= 0; cost++) {
            if (priceOf(sys.with(reweighed(r, cost))) == priceOf(sys)) {
                greatest = cost;
            }
        }
        return greatest;
    }

    private int walk(int z, int n, int what) {
        if (z < 0 || z > 9999 || n < 1 || n > 60 || what < 0 || what > 2) {
            return -1;
        }
        Config config = sys.config;
        int k = 0;
        while (k < n) {
            long x = 7919L * z + 6151L * k + 1;
            long d = ((x * x) % 65521) / 4;
            List<Config> next = new ArrayList<>();
            for (Rule rule : sys.rules) {
                if (after(config, rule) != null) {
                    next.add(after(config, rule));
                }
            }
            if (next.isEmpty() || next.get((int) (d % next.size())).stack.length() > 12) {
                break;
            }
            config = next.get((int) (d % next.size()));
            k++;
        }
        return what == 0 ? k : what == 1 ? config.stack.length() : config.state;
    }

    private int keep() {
        if (saved.size() == 2) {
            return -3;
        }
        saved.push(sys);
        return saved.size();
    }

    private int back() {
        if (saved.isEmpty()) {
            return -2;
        }
        sys = saved.pop();
        past.clear();
        return saved.size();
    }

    private int count(int what) {
        int[] counts = {sys.n, sys.rules.size(), sys.targets.size(), sys.mode, past.size(), saved.size(), text.length()};
        return what < 0 || what > 6 ? -1 : counts[what];
    }
}
