import java.util.ArrayList;
import java.util.List;
import java.util.Set;
import java.util.TreeSet;

/**
 * "A call that returns an error changes nothing": two new objects get the same calls, one of them a refused call
 * more; from then on both must answer alike. A question changes nothing either, also if it is answered.
 */
final class RefusedTest {
    private static final Check CHECK = new Check();
    private static final List<String> STARTS = List.of(
        "",
        "pop(); pop()",
        "push(0); push(1); push(2); push(3); push(0); push(1); push(2); push(3); push(0); push(0)",
        "go(1); push(0); push(0); push(0); push(0); push(0); push(0); push(0); push(0); push(0); push(1); step(3); run(0)",
        "enter(0, 0, 0, 20, 9); enter(0, 0, 1, 4, 0); enter(1, 3, 1, 0, 5); price(); run(2)",
        "drop(6); drop(5); drop(4); drop(3); drop(1); drop(1); mode(2); stuck()",
        "keep(); push(3); mode(1); keep(); pop(); weigh(0, 9); price(); run(-1)",
        "keep(); step(0); step(1); run(0); back(); keep(); push(1); write(110); write(120)",
        "text m0;n2;r0,a,0,,0;",
        "text n3;t0,;c2,abc;m2;",
        "text n3;r0,a,1,bc,2;r1,b,2,,3;r2,c,0,a,4;t0,a.;t2,;c0,abc;m1;; push(1)",
        "text n3;r0,a,1,bc,2;r1,b,2,,3;r2,c,0,a,4;t0,a.;t2,;c0,abc;m1;; lay(); keep(); step(0); price(); run(0); step(1)",
        "full text");
    private static final List<String> CALLS = List.of("write(31)", "write(127)", "write(65)", "lay()", "push(-1)", "push(4)",
        "push(0)", "pop()", "step(-1)", "step(0)", "step(1)", "step(2)", "step(3)", "step(4)", "step(5)", "step(6)", "step(10)",
        "go(-1)", "go(0)", "go(1)", "go(2)", "go(3)", "enter(-1, 0, 0, 0, 0)", "enter(3, 0, 0, 0, 0)", "enter(0, -1, 0, 0, 0)",
        "enter(0, 4, 0, 0, 0)", "enter(0, 0, -1, 0, 0)", "enter(0, 0, 3, 0, 0)", "enter(0, 0, 0, -1, 0)",
        "enter(0, 0, 0, 21, 0)", "enter(0, 0, 0, 0, -1)", "enter(0, 0, 0, 0, 10)", "enter(0, 0, 0, 0, 0)", "drop(-1)", "drop(0)",
        "drop(10)", "weigh(-1, 0)", "weigh(10, 0)", "weigh(0, -1)", "weigh(0, 10)", "weigh(0, 2)", "weigh(0, 9)", "mode(-1)",
        "mode(0)", "mode(1)", "mode(2)", "mode(3)", "undo()", "keep()", "back()");
    private static final List<String> QUESTIONS = List.of("fault()", "rule(-1, 0)", "rule(0, 7)", "rule(0, 4)", "target(4, 0)",
        "target(0, 6)", "target(0, 3)", "stack(-3)", "stack(0)", "stack(12)", "price()", "run(-2)", "run(-1)", "run(0)", "run(3)",
        "run(2147483647)", "heads(3, 0)", "heads(0, 4)", "heads(0, 0)", "empty(3)", "empty(0)", "stuck()", "edge(13, 0, 0)",
        "edge(0, 4, 0)", "edge(0, 0, 13)", "edge(0, 0, 1)", "automaton(4)", "automaton(3)", "needed()", "dear(10)", "dear(0)",
        "walk(-1, 1, 0)", "walk(0, 61, 0)", "walk(0, 1, 3)", "walk(9999, 60, 0)", "count(7)", "count(0)");
    private static final Set<String> REFUSED = new TreeSet<>();

    public static void main(String[] args) {
        for (String start : STARTS) {
            for (String call : CALLS) {
                int answer = Check.play(begun(start), call);
                if (answer < 0 && answer > CallTowers.NONE) {
                    REFUSED.add(call.substring(0, call.indexOf('(')) + answer);
                    changesNothing(start, call);
                }
            }
            for (String question : QUESTIONS) {
                changesNothing(start, question);
            }
        }
        // Each change was refused for each reason that the document tells.
        CHECK.same("the refusals " + REFUSED, Set.of("write-1", "write-3", "lay-2", "push-1", "push-3", "pop-2", "step-1",
            "step-2", "step-3", "go-1", "go-2", "enter-1", "enter-3", "drop-1", "drop-2", "weigh-1", "weigh-2", "mode-1",
            "mode-2", "undo-2", "keep-3", "back-2").equals(REFUSED) ? 1 : 0, 1);
        CHECK.end("RefusedTest");
    }

    private static CallTowers begun(String start) {
        CallTowers towers = new CallTowers();
        String calls = start;
        if (start.equals("full text")) {
            Check.type(towers, "n1;r0,a,0,a,0;t0,;" + "m0;".repeat(60) + "m2");
            calls = "";
        } else if (start.startsWith("text ")) {
            int end = start.lastIndexOf(";; ") < 0 ? start.length() : start.lastIndexOf(";; ") + 1;
            Check.type(towers, start.substring(5, end));
            calls = end < start.length() ? start.substring(end + 1) : "";
        }
        for (String call : calls.split(";")) {
            if (!call.isBlank()) {
                Check.play(towers, call.trim());
            }
        }
        return towers;
    }

    private static void changesNothing(String start, String call) {
        CallTowers model = begun(start);
        for (List<String> rest : List.of(facts(model), figures(model), undoing(), goingBack(), laying(), goingOn())) {
            CallTowers plain = begun(start);
            CallTowers asked = begun(start);
            Check.play(asked, call);
            for (String next : rest) {
                CHECK.same(start + "; " + call + "; .. " + next, Check.play(asked, next), Check.play(plain, next));
            }
        }
    }

    private static List<String> facts(CallTowers model) {
        List<String> calls = new ArrayList<>(List.of("fault()"));
        for (int what = 0; what < 7; what++) {
            calls.add("count(" + what + ")");
            for (int r = 0; r < model.count(1); r++) {
                calls.add("rule(" + r + ", " + what + ")");
            }
        }
        for (int what = 0; what < 6; what++) {
            for (int t = 0; t < model.count(2); t++) {
                calls.add("target(" + t + ", " + what + ")");
            }
        }
        for (int k = -2; k <= 12; k++) {
            calls.add("stack(" + k + ")");
        }
        calls.addAll(List.of("price()", "run(1)", "run(0)", "run(-1)", "run(2)", "run(3)", "stuck()", "needed()"));
        for (int r = 0; r < model.count(1); r++) {
            calls.add("dear(" + r + ")");
        }
        calls.addAll(List.of("walk(3, 9, 0)", "walk(77, 60, 1)", "walk(9999, 60, 2)"));
        return calls;
    }

    private static List<String> figures(CallTowers model) {
        List<String> calls = new ArrayList<>();
        for (int letter = 0; letter < 4; letter++) {
            calls.add("automaton(" + letter + ")");
            for (int node = 0; node < model.automaton(0); node++) {
                for (int to = 0; to < model.automaton(0); to++) {
                    calls.add("edge(" + node + ", " + letter + ", " + to + ")");
                }
                calls.add("heads(" + node + ", " + letter + ")");
                calls.add("empty(" + node + ")");
            }
        }
        return calls;
    }

    private static List<String> undoing() {
        return repeated(9, "undo()");
    }

    private static List<String> goingBack() {
        return repeated(3, "back()");
    }

    /** The text is seen by what it makes. */
    private static List<String> laying() {
        List<String> calls = new ArrayList<>(List.of("lay()"));
        calls.addAll(repeated(1, "undo()"));
        calls.addAll(List.of("write(59)", "fault()", "wipe()", "fault()"));
        return calls;
    }

    private static List<String> goingOn() {
        List<String> calls = new ArrayList<>(List.of("keep()", "push(1)", "keep()", "step(0)", "keep()", "weigh(0, 5)"));
        calls.addAll(repeated(3, "undo()"));
        return calls;
    }

    private static List<String> repeated(int times, String call) {
        List<String> calls = new ArrayList<>();
        for (int i = 0; i < times; i++) {
            calls.addAll(List.of(call, "count(0)", "count(1)", "count(2)", "count(3)", "count(4)", "count(5)", "stack(-2)",
                "stack(-1)", "stack(0)", "stack(1)", "stack(2)", "rule(0, 0)", "rule(0, 4)", "rule(0, 6)", "rule(1, 1)",
                "target(0, 0)", "price()", "run(-1)", "run(0)", "edge(0, 0, 1)", "stuck()"));
        }
        return calls;
    }
}
