/** The promises 1 to 30, one after another: ordinary inputs, the edges the document names, and wrong inputs. */
final class PromiseTest {
    private static final Check CHECK = new Check();
    private static final String FIRST =
        "n2;r0,a,0,ba,2;r0,b,1,,1;r1,a,1,,3;r1,b,0,b,0;r1,a,0,c,5;r0,c,0,cc,1;r0,c,1,,4;t1,;t0,cc.;c0,aa;m0;";

    public static void main(String[] args) {
        newObject();
        text();
        faults();
        lay();
        ruleAndTarget();
        stackCalls();
        step();
        go();
        enterAndDrop();
        weighAndMode();
        undo();
        price();
        run();
        longRun();
        heads();
        edges();
        automaton();
        needed();
        dear();
        walk();
        savedStates();
        count();
        CHECK.end("PromiseTest");
    }

    private static void newObject() {
        CHECK.same("BAD", CallTowers.BAD, -1);
        CHECK.same("NO", CallTowers.NO, -2);
        CHECK.same("FULL", CallTowers.FULL, -3);
        CHECK.same("NONE", CallTowers.NONE, -4);
        CHECK.onNew("1", "count(0) = 2; count(1) = 7; count(2) = 2; count(3) = 0; count(4) = 0; count(5) = 0; "
            + "count(6) = 0; undo() = -2; back() = -2; fault() = -4; lay() = -2; stack(-2) = 0; stack(-1) = 2; "
            + "stack(0) = 0; stack(1) = 0; stack(2) = -4");
        // The system at first is that of the text that the document tells.
        CallTowers fresh = new CallTowers();
        CallTowers laid = new CallTowers();
        Check.type(laid, FIRST);
        CHECK.same("1: the first text", laid.lay(), 7);
        for (int r = 0; r < 7; r++) {
            for (int what = 0; what < 7; what++) {
                CHECK.same("1: rule(" + r + ", " + what + ")", fresh.rule(r, what), laid.rule(r, what));
            }
        }
        for (int t = 0; t < 2; t++) {
            for (int what = 0; what < 6; what++) {
                CHECK.same("1: target(" + t + ", " + what + ")", fresh.target(t, what), laid.target(t, what));
            }
        }
    }

    private static void text() {
        CHECK.onNew("2", "write(31) = -1; write(127) = -1; write(32) = 1; write(126) = 2; write(-5) = -1; "
            + "write(2147483647) = -1; write(-2147483648) = -1; count(6) = 2");
        CallTowers towers = new CallTowers();
        for (int i = 1; i <= 200; i++) {
            CHECK.same("2: write " + i, towers.write('m'), i);
        }
        CHECK.on("2: a full text", towers, "write(109) = -3; write(31) = -1; count(6) = 200");
        CHECK.on("3", towers, "wipe() = 200; count(6) = 0; wipe() = 0; write(110) = 1; wipe() = 1; fault() = -4");
        // The text and what is written to it is no change of the system, and nothing that can be undone.
        CHECK.onNew("3", "push(1) = 3; write(110) = 1; wipe() = 1; count(4) = 1; undo() = 0");
    }

    private static void faultOf(String text, int want) {
        CallTowers towers = new CallTowers();
        Check.type(towers, text);
        CHECK.same("4: the fault of " + text, towers.fault(), want);
        CHECK.same("4: fault() keeps the text " + text, towers.count(6), text.length());
        if (want != CallTowers.NONE) {
            CHECK.same("5: lay() of " + text, towers.lay(), CallTowers.NO);
        }
    }

    private static void faults() {
        faultOf("", -4);
        for (String good : new String[] {"n1;", "n2;", "n3;", "m0;m1;m2;", "r0,a,1,,0;", "r1,d,0,d,9;", "r0,b,0,cd,5;",
            "t0,;", "t1,abc;", "t0,.;", "t1,ddd.;", "c0,;", "c1,abcdab;", "c0,a;c1,;c0,bb;", "n3;r2,a,2,,0;t2,;c2,;"}) {
            faultOf(good, -4);
        }
        for (String bad : new String[] {"n0;", "n4;", "n;", "n2", "n22;", "n2,", "n", "r", "r0", "r0,", "r0,a", "r0,a,",
            "r0,a,1", "r0,a,1,", "r0,a,1,,", "r0,a,1,,0", "r2,a,0,,0;", "r0,e,0,,0;", "r0,A,0,,0;", "r0,,0,,0;",
            "r0,a,2,,0;", "r0,a,0,abc,0;", "r0,a,0,ae,0;", "r0,a,0,,10;", "r0,a,0,,;", "r0,a,0,;", "r0,a,0,,a;", "t;", "t0;",
            "t0", "t0,", "t2,;", "t0,abcd;", "t0,e;", "t0,.", "t0,..;", "t0,.a;", "t0,abc.", "t,a;", "c", "c0", "c0;", "c0,",
            "c2,;", "c0,abcdabc;", "c0,a.;", "c0,ab", "m3;", "m;", "m1", "m", "m11;", "m-;", " ", "x", ";", "N2;", "0;",
            "r 0,a,0,,0;", "r0,a,0,`,0;", "r/,a,0,,0;", "r:,a,0,,0;", "r0,a,0,,:;", "r0,a,0,,/;"}) {
            faultOf(bad, 0);
            faultOf("m0;" + bad, 3);
            faultOf("m0;c0,a;" + bad, 8);
            faultOf("m0;" + bad + "r0,a,0,,0;", 3);
        }
        faultOf("n2;n2;", 3);
        faultOf("m0;n2;", 3);
        faultOf("n1;r0,a,1,,0;", 3);
        faultOf("n1;r1,a,0,,0;", 3);
        faultOf("n1;t1,;", 3);
        faultOf("n1;c1,;", 3);
        faultOf("n3;t2,;", -4);
        faultOf("n2;t2,;", 3);
        faultOf("m0;;", 3);
        faultOf("r0,a,0,,0; ", 10);
        StringBuilder rules = new StringBuilder();
        for (int i = 0; i < 10; i++) {
            rules.append("r0,a,0,,").append(i).append(";");
        }
        faultOf(rules.toString(), -4);
        faultOf(rules + "m1;r0,a,0,,1;", 103);
        faultOf("t0,;t0,.;t0,;t0,;", -4);
        faultOf("t0,;t0,.;t0,;t0,;t0,;", 17);
        // The text ends where its last character may be, in the middle of each kind of part.
        faultOf("m0;".repeat(65) + "c0,;m", 199);
        faultOf("m0;".repeat(63) + "c0,;c0,;r0,", 197);
        faultOf("m0;".repeat(66) + "m0", 198);
        faultOf("m0;".repeat(65) + "t0,.;", -4);
        faultOf("m0;".repeat(65) + "t0,a.", 195);
        // What was wiped is not read.
        CallTowers towers = new CallTowers();
        Check.type(towers, "n2;m1;");
        CHECK.on("4: a wiped text", towers, "wipe() = 6; write(110) = 1; write(50) = 2; fault() = 0; write(59) = 3; "
            + "fault() = -4");
    }

    private static void lay() {
        CHECK.onNew("5: an empty text", "lay() = -2; count(1) = 7");
        CallTowers noRule = new CallTowers();
        Check.type(noRule, "n3;t0,;");
        CHECK.on("5: no rule", noRule, "push(0) = 3; keep() = 1; fault() = -4; lay() = -2; count(0) = 2; count(1) = 7; "
            + "count(4) = 1; count(5) = 1; count(6) = 7; stack(-1) = 3");
        CallTowers towers = new CallTowers();
        Check.type(towers, "n3;m1;c2,abcd;m2;c1,ba;r2,d,1,cb,7;t2,cab.;");
        CHECK.on("5", towers, "push(0) = 3; keep() = 1; keep() = 2; lay() = 1; count(0) = 3; count(1) = 1; count(2) = 1; "
            + "count(3) = 2; count(4) = 0; count(5) = 0; count(6) = 43; undo() = -2; back() = -2; stack(-2) = 1; "
            + "stack(-1) = 2; stack(0) = 1; stack(1) = 0; rule(0, 0) = 2; rule(0, 1) = 3; rule(0, 2) = 1; rule(0, 3) = 2; "
            + "rule(0, 4) = 2; rule(0, 5) = 1; rule(0, 6) = 7; target(0, 0) = 2; target(0, 1) = 3; target(0, 2) = 1; "
            + "target(0, 3) = 2; target(0, 4) = 0; target(0, 5) = 1; lay() = 1; drop(0) = -2");
        CHECK.onText("5: what a text leaves out", "r1,a,1,,0;", "count(0) = 2; count(2) = 0; count(3) = 0; "
            + "stack(-2) = 0; stack(-1) = 0; price() = -4; run(-1) = -4");
        CallTowers twice = CHECK.onText("5: a second text", "n3;r0,a,2,,0;t2,.;c2,ab;m2;", "lay() = 1; walk(0, 1, 1) = 2; "
            + "wipe() = 27");
        Check.type(twice, "r1,b,1,,0;");
        CHECK.on("5: a second text", twice, "lay() = 1; count(0) = 2; count(1) = 1; count(2) = 0; count(3) = 0; "
            + "stack(-2) = 0; stack(-1) = 0; stack(0) = -4; rule(0, 1) = 1");
        CHECK.onText("5: a laid system changes and is laid again", "n1;r0,a,0,,0;c0,a;",
            "push(1) = 2; enter(0, 1, 0, 0, 1) = 1; lay() = 1; stack(-1) = 1; count(1) = 1; undo() = -2");
    }

    private static void ruleAndTarget() {
        CHECK.onNew("6", "rule(-1, 0) = -1; rule(7, 0) = -1; rule(0, -1) = -1; rule(0, 7) = -1; rule(6, 6) = 4; "
            + "rule(1, 3) = 0; rule(1, 4) = -4; rule(1, 5) = -4; rule(3, 3) = 1; rule(3, 4) = 1; rule(3, 5) = -4; "
            + "rule(0, 3) = 2; rule(0, 4) = 1; rule(0, 5) = 0; rule(4, 0) = 1; rule(4, 1) = 0; rule(4, 2) = 0; "
            + "rule(4, 4) = 2; rule(4, 6) = 5; rule(2147483647, 0) = -1; rule(-2147483648, 4) = -1");
        CHECK.onNew("7", "target(-1, 0) = -1; target(2, 0) = -1; target(0, -1) = -1; target(0, 6) = -1; "
            + "target(0, 0) = 1; target(0, 1) = 0; target(0, 2) = 0; target(0, 3) = -4; target(1, 2) = 1; "
            + "target(1, 3) = 2; target(1, 4) = 2; target(1, 5) = -4");
        CHECK.onText("7: four targets", "n3;r0,a,0,,0;t0,abc;t1,d.;t2,ba;t0,.;", "count(2) = 4; target(0, 1) = 3; "
            + "target(0, 2) = 0; target(0, 3) = 0; target(0, 4) = 1; target(0, 5) = 2; target(1, 0) = 1; target(1, 2) = 1; "
            + "target(1, 3) = 3; target(1, 4) = -4; target(2, 0) = 2; target(2, 4) = 0; target(2, 5) = -4; "
            + "target(3, 1) = 0; target(3, 2) = 1; target(3, 3) = -4; target(4, 0) = -1; target(3, 6) = -1");
    }

    private static void stackCalls() {
        CHECK.onNew("8", "stack(-3) = -1; stack(-2147483648) = -1; stack(2147483647) = -4; stack(-2) = 0; "
            + "stack(-1) = 2; push(3) = 3; stack(0) = 3; stack(1) = 0; stack(2) = 0; stack(3) = -4");
        CHECK.onNew("9", "push(-1) = -1; push(4) = -1; push(0) = 3; push(1) = 4; push(2) = 5; push(3) = 6; push(0) = 7; "
            + "push(1) = 8; push(2) = 9; push(3) = 10; push(0) = 11; push(1) = 12; push(2) = -3; push(4) = -1; "
            + "stack(-1) = 12; stack(0) = 1; stack(11) = 0; count(4) = 8");
        CHECK.onNew("10", "push(3) = 3; pop() = 3; pop() = 0; pop() = 0; pop() = -2; count(4) = 4; stack(-1) = 0; "
            + "stack(0) = -4; undo() = 3; stack(0) = 0");
    }

    private static void step() {
        CHECK.onNew("11", "step(-1) = -1; step(7) = -1; step(1) = -2; step(2) = -2; step(0) = 3; stack(-2) = 0; "
            + "stack(0) = 1; stack(1) = 0; stack(2) = 0; step(1) = 2; stack(-2) = 1; stack(0) = 0; step(4) = 2; "
            + "stack(0) = 2; stack(1) = 0; stack(-2) = 0; count(4) = 3; pop() = 2; pop() = 0; step(0) = -2; step(7) = -1");
        CHECK.onText("11: a full stack", "n1;r0,a,0,ba,2;r0,b,0,c,0;r0,c,0,,1;r0,a,0,ab,0;c0,aaaaaa;",
            "push(0) = 7; push(0) = 8; push(0) = 9; push(0) = 10; push(0) = 11; step(0) = 12; step(1) = 12; step(0) = -2; "
            + "step(4) = -1; step(2) = 11; step(3) = 12; step(0) = -3; step(3) = -3; step(1) = -2; undo() = 7; "
            + "stack(-1) = 11; stack(0) = 0");
    }

    private static void go() {
        CHECK.onNew("12", "go(-1) = -1; go(2) = -1; go(0) = -2; go(1) = 0; stack(-2) = 1; go(1) = -2; go(0) = 1; "
            + "count(4) = 2");
        CHECK.onText("12: three states", "n3;r0,a,0,,0;", "go(2) = 0; go(3) = -1; go(0) = 2");
        CHECK.onText("12: one state", "n1;r0,a,0,,0;", "go(0) = -2; go(1) = -1");
    }

    private static void enterAndDrop() {
        CHECK.onNew("13", "enter(-1, 0, 0, 0, 0) = -1; enter(2, 0, 0, 0, 0) = -1; enter(0, -1, 0, 0, 0) = -1; "
            + "enter(0, 4, 0, 0, 0) = -1; enter(0, 0, -1, 0, 0) = -1; enter(0, 0, 2, 0, 0) = -1; enter(0, 0, 0, -1, 0) = -1; "
            + "enter(0, 0, 0, 21, 0) = -1; enter(0, 0, 0, 0, -1) = -1; enter(0, 0, 0, 0, 10) = -1; count(4) = 0; "
            + "enter(1, 3, 0, 0, 9) = 7; rule(7, 0) = 1; rule(7, 1) = 3; rule(7, 2) = 0; rule(7, 3) = 0; rule(7, 4) = -4; "
            + "rule(7, 6) = 9; enter(0, 0, 1, 4, 0) = 8; rule(8, 3) = 1; rule(8, 4) = 3; rule(8, 5) = -4; "
            + "enter(1, 2, 1, 18, 5) = 9; rule(9, 3) = 2; rule(9, 4) = 3; rule(9, 5) = 1; enter(0, 0, 0, 0, 0) = -3; "
            + "enter(0, 0, 0, 0, 10) = -1; count(1) = 10; count(4) = 3");
        for (int word = 0; word <= 20; word++) {
            CallTowers towers = new CallTowers();
            CHECK.same("13: enter " + word, towers.enter(0, 0, 0, word, 0), 7);
            CHECK.same("13: letters of " + word, towers.rule(7, 3), word == 0 ? 0 : word < 5 ? 1 : 2);
            CHECK.same("13: first of " + word, towers.rule(7, 4), word == 0 ? -4 : word < 5 ? word - 1 : (word - 5) / 4);
            CHECK.same("13: second of " + word, towers.rule(7, 5), word < 5 ? -4 : (word - 5) % 4);
        }
        CHECK.onNew("13: a new run", "go(1) = 0; pop() = 0; pop() = 0; push(3) = 1; price() = -4; "
            + "enter(1, 3, 1, 0, 6) = 7; price() = 6; run(0) = 7; edge(1, 3, 1) = 6");
        CHECK.onNew("14", "drop(-1) = -1; drop(7) = -1; drop(0) = 6; rule(0, 1) = 1; rule(5, 6) = 4; rule(6, 0) = -1; "
            + "drop(2) = 5; rule(2, 1) = 0; rule(2, 6) = 5; rule(1, 6) = 3; price() = -4; drop(4) = 4; drop(0) = 3; drop(0) = 2; "
            + "drop(0) = 1; drop(0) = -2; drop(1) = -1; rule(0, 1) = 2; rule(0, 3) = 2; count(4) = 6");
    }

    private static void weighAndMode() {
        CHECK.onNew("15", "weigh(-1, 0) = -1; weigh(7, 0) = -1; weigh(0, -1) = -1; weigh(0, 10) = -1; weigh(0, 2) = -2; "
            + "count(4) = 0; weigh(0, 9) = 2; rule(0, 6) = 9; price() = 16; edge(0, 0, 1) = 13; weigh(0, 0) = 9; "
            + "price() = 7; count(4) = 2; undo() = 1; price() = 16");
        CHECK.onNew("16", "mode(-1) = -1; mode(3) = -1; mode(0) = -2; mode(1) = 0; price() = 4; mode(1) = -2; "
            + "edge(0, 0, 1) = 3; mode(2) = 1; price() = 3; edge(0, 0, 1) = 3; count(3) = 2; mode(0) = 2; price() = 9; "
            + "count(4) = 3");
    }

    private static void undo() {
        CHECK.onNew("17", "undo() = -2; push(1) = 3; undo() = 0; stack(-1) = 2; undo() = -2");
        CHECK.onNew("17: each change", "push(1) = 3; pop() = 1; step(0) = 3; go(1) = 0; enter(1, 3, 1, 0, 6) = 7; "
            + "drop(0) = 7; weigh(0, 9) = 1; mode(2) = 0; count(4) = 8; "
            + "undo() = 7; count(3) = 0; undo() = 6; rule(0, 6) = 1; undo() = 5; count(1) = 8; rule(0, 6) = 2; "
            + "undo() = 4; count(1) = 7; undo() = 3; stack(-2) = 0; undo() = 2; stack(-1) = 2; undo() = 1; stack(-1) = 3; "
            + "undo() = 0; stack(-1) = 2; undo() = -2; price() = 9; run(-1) = 4; stuck() = 2");
        CHECK.onNew("17: the latest 8", "push(0) = 3; push(1) = 4; push(2) = 5; push(3) = 6; push(0) = 7; push(1) = 8; "
            + "push(2) = 9; push(3) = 10; push(0) = 11; count(4) = 8; undo() = 7; undo() = 6; undo() = 5; push(3) = 9; "
            + "count(4) = 6; undo() = 5; stack(-1) = 8; undo() = 4; undo() = 3; undo() = 2; undo() = 1; undo() = 0; "
            + "undo() = -2; stack(-1) = 3; stack(0) = 0");
        CHECK.onNew("17: errors are no changes", "push(4) = -1; step(1) = -2; go(0) = -2; enter(2, 0, 0, 0, 0) = -1; "
            + "drop(7) = -1; weigh(0, 2) = -2; mode(0) = -2; count(4) = 0; undo() = -2");
        CHECK.onNew("17: undoing a price", "price() = 9; weigh(0, 5) = 2; price() = 12; run(-1) = 4; undo() = 0; "
            + "price() = 9; pop() = 0; run(-1) = 3; undo() = 0; run(-1) = 4");
    }

    private static void price() {
        CHECK.onNew("18", "price() = 9; pop() = 0; price() = 6; pop() = 0; price() = -4; go(1) = 0; price() = 0; "
            + "push(3) = 1; price() = -4; mode(1) = 0; price() = -4");
        CHECK.onText("18: exact and open targets", "n1;r0,a,0,,3;t0,ab;t0,ba.;c0,ab;", "price() = 0; push(0) = 3; "
            + "price() = 3; pop() = 0; pop() = 0; push(1) = 2; price() = -4; pop() = 1; push(0) = 2; push(1) = 3; price() = 0; "
            + "push(3) = 4; price() = -4");
        CHECK.onText("18: an open target without letters", "n2;r0,a,1,,4;t1,.;c0,a;", "price() = 4; pop() = 0; "
            + "price() = -4; go(1) = 0; price() = 0; push(3) = 1; price() = 0");
        CHECK.onText("18: the smallest of the greatest costs", "n1;r0,a,0,,8;r0,a,0,bb,3;r0,b,0,,5;t0,;c0,a;m2;",
            "price() = 5; run(-1) = 1; run(0) = 0; mode(1) = 2; price() = 1; mode(0) = 1; price() = 8; weigh(2, 2) = 5; "
            + "price() = 7; run(-1) = 1");
        // The stack must grow beyond the 12 letters that a change may reach.
        CHECK.onText("18: a high stack", "n1;r0,a,0,bb,1;r0,b,0,cc,1;r0,c,0,dd,1;r0,d,0,,1;t0,;c0,aaaaaa;",
            "price() = 90; push(0) = 7; push(0) = 8; push(0) = 9; push(0) = 10; push(0) = 11; push(0) = 12; price() = 180; "
            + "run(-1) = 180; run(0) = 0; run(1) = 1; run(2) = 2; run(3) = 3; run(179) = 3; run(180) = -4; "
            + "heads(0, 3) = 1; empty(0) = 1; mode(2) = 0; price() = 1");
        CHECK.onText("18: no targets", "r0,a,0,,0;c0,a;", "price() = -4; run(0) = -4; needed() = 0; dear(0) = -4");
    }

    private static void run() {
        CHECK.onNew("19", "run(-2) = -1; run(-2147483648) = -1; run(2147483647) = -4; run(-1) = 4; run(0) = 0; run(1) = 1; "
            + "run(2) = 2; run(3) = 2; run(4) = -4; run(3) = 2; run(0) = 0; run(2) = 2; run(2) = 2; run(1) = 1; step(0) = 3; "
            + "run(-1) = 3; run(0) = 1; pop() = 1; push(3) = 3; run(-1) = -4; run(0) = -4; run(-2) = -1");
        CHECK.onText("19: the smallest first rule, then the next", "n2;r0,a,1,b,9;r0,a,0,b,9;r0,b,1,,0;r1,b,1,,9;r1,b,1,,0;"
            + "t1,;c0,a;", "run(-1) = 2; run(0) = 0; run(1) = 3; price() = 9; drop(3) = 4; run(1) = 3; drop(0) = 3; "
            + "run(0) = 0; run(1) = 1; mode(2) = 0; run(-1) = 2");
        CHECK.onText("19: fewest steps though dearer", "n1;r0,a,0,b,0;r0,b,0,,0;r0,a,0,,9;t0,;c0,a;",
            "price() = 0; run(-1) = 1; run(0) = 2; run(1) = -4");
        CHECK.onText("19: a target at once", "n1;r0,a,0,,0;t0,a.;c0,aa;", "run(-1) = 0; run(0) = -4; price() = 0");
        // A longer first part may begin with smaller rules, if the second part is shorter by as much.
        CHECK.onText("19: parts of several lengths", "n3;r0,a,1,c,0;r1,c,1,,0;r0,a,2,,0;r1,b,1,,0;r2,b,2,b,0;r2,b,1,,0;"
            + "t1,;c0,ab;", "run(-1) = 2; run(0) = 2; run(1) = 5; drop(5) = 5; run(-1) = 3; run(0) = 0; run(1) = 1; run(2) = 3");
    }

    /** A run of thousands of steps, each of which is asked for, forwards and then here and there. */
    private static void longRun() {
        String text = "n3;r2,d,0,,1;r2,b,2,dc,1;r1,d,2,bc,1;r0,c,2,da,1;r1,b,0,cd,1;r0,d,1,dc,1;r1,c,2,,1;r0,a,1,,1;"
            + "r2,d,1,ba,1;r2,a,1,bb,1;t0,;c0,";
        for (String letters : new String[] {"d;", "dc;", "dccc;", "dccccc;"}) {
            CallTowers towers = new CallTowers();
            Check.type(towers, text + letters);
            CHECK.same("19: a long run: lay()", towers.lay(), 10);
            int steps = towers.run(-1);
            CHECK.same("19: a long run costs 1 a step", towers.price(), steps);
            int[] rules = new int[Math.max(steps, 0)];
            int state = 0;
            StringBuilder stack = new StringBuilder(letters.replace(";", ""));
            for (int k = 0; k < steps; k++) {
                int r = towers.run(k);
                rules[k] = r;
                CHECK.holds("19: a long run: step " + k, r >= 0 && r < 10 && stack.length() > 0
                    && towers.rule(r, 0) == state && towers.rule(r, 1) == stack.charAt(0) - 'a');
                stack.deleteCharAt(0);
                for (int i = towers.rule(r, 3) - 1; i >= 0; i--) {
                    stack.insert(0, (char) ('a' + towers.rule(r, 4 + i)));
                }
                state = towers.rule(r, 2);
            }
            CHECK.holds("19: a long run ends at the target", steps > 0 && state == 0 && stack.length() == 0);
            for (int k = steps - 1; k > 0; k = k * 2 / 3) {
                CHECK.same("19: a long run again: " + k, towers.run(k), rules[k]);
            }
            CHECK.same("19: a long run is over", towers.run(steps), CallTowers.NONE);
        }
    }

    private static void heads() {
        CHECK.onNew("20", "heads(-1, 0) = -1; heads(2, 0) = -1; heads(0, -1) = -1; heads(0, 4) = -1; heads(0, 0) = 1; "
            + "heads(0, 1) = 1; heads(0, 2) = 1; heads(0, 3) = 0; heads(1, 0) = 1; heads(1, 1) = 0; heads(1, 2) = 1; "
            + "heads(1, 3) = 0");
        CHECK.onText("20: only the top letters", "n2;r0,a,0,ab,0;c0,ad;t0,;", "heads(0, 0) = 1; heads(0, 1) = 0; "
            + "heads(0, 3) = 0; heads(1, 0) = 0; empty(0) = 0; stuck() = 0; enter(0, 0, 1, 0, 0) = 1; heads(1, 1) = 1; "
            + "heads(1, 3) = 1; heads(0, 3) = 0; heads(1, 0) = 0; stuck() = 2");
        // The letter d is seen only after more than 12 letters lie on one another.
        CHECK.onText("20: beyond 12 letters", "n3;r0,a,1,ab,0;r1,a,2,ab,0;r2,a,0,ab,0;r0,b,0,,0;r1,b,0,d,0;c0,aaaaaa;",
            "push(0) = 7; push(0) = 8; push(0) = 9; push(0) = 10; push(0) = 11; push(0) = 12; heads(0, 0) = 1; "
            + "heads(2, 0) = 1; heads(0, 1) = 0; enter(1, 0, 1, 0, 0) = 5; heads(1, 1) = 1; heads(0, 3) = 1; stuck() = 1");
        CHECK.onNew("21", "empty(-1) = -1; empty(2) = -1; empty(0) = 0; empty(1) = 1; pop() = 0; pop() = 0; empty(0) = 1; "
            + "empty(1) = 0; heads(0, 0) = 0; stuck() = 1; go(1) = 0; empty(1) = 1; push(3) = 1; empty(1) = 0; "
            + "heads(1, 3) = 1; stuck() = 1; pop() = 3; push(1) = 1; heads(0, 1) = 1; empty(1) = 1; empty(0) = 0");
        CHECK.onText("21: what a later rule adds to an earlier one", "n2;r0,a,1,,0;r0,b,0,a,0;r0,a,0,,0;c0,b;",
            "empty(0) = 1; empty(1) = 1; stuck() = 2");
        CHECK.onNew("22", "stuck() = 2; drop(5) = 6; stuck() = 1; drop(5) = 5; stuck() = 2; drop(4) = 4; stuck() = 1");
        CHECK.onText("22: several", "n3;r0,a,1,,0;r0,a,2,,0;c0,a;", "stuck() = 2; push(0) = 2; stuck() = 2; "
            + "heads(1, 0) = 1; heads(2, 0) = 1; enter(1, 0, 0, 0, 0) = 2; stuck() = 2; empty(0) = 1; empty(1) = 0; "
            + "heads(2, 0) = 1");
    }

    private static void edges() {
        CHECK.onNew("23", "edge(-1, 0, 0) = -1; edge(5, 0, 0) = -1; edge(0, -1, 0) = -1; edge(0, 4, 0) = -1; "
            + "edge(0, 0, -1) = -1; edge(0, 0, 5) = -1; edge(0, 0, 1) = 6; edge(0, 0, 2) = -4; edge(0, 0, 3) = 9; "
            + "edge(0, 0, 4) = 8; edge(0, 1, 1) = 1; edge(0, 2, 1) = 4; edge(0, 2, 3) = 1; edge(0, 2, 4) = 0; edge(1, 0, 1) = 3; "
            + "edge(3, 0, 3) = 0; edge(3, 3, 3) = 0; edge(4, 2, 3) = 0; edge(4, 2, 2) = -4; edge(2, 0, 2) = -4; "
            + "edge(3, 0, 2) = -4");
        // Nodes: 0, 1, 2 the states, 3 the end, 4 any, 5 and 6 behind a and b of the first target, 7 in the third.
        CHECK.onText("23: nodes of targets", "n3;r0,a,0,,9;t0,abc;t1,d.;t2,ba.;t1,.;", "edge(0, 0, 5) = 0; "
            + "edge(5, 1, 6) = 0; edge(6, 2, 3) = 0; edge(1, 3, 4) = 0; edge(2, 1, 7) = 0; edge(7, 0, 4) = 0; edge(7, 0, 3) = -4; "
            + "edge(1, 0, 4) = 0; edge(0, 0, 0) = 9; edge(8, 0, 0) = -1; automaton(0) = 8; automaton(1) = 13; "
            + "automaton(2) = 14; automaton(3) = 1");
    }

    private static void automaton() {
        CHECK.onNew("24", "automaton(-1) = -1; automaton(4) = -1; automaton(0) = 5; automaton(1) = 6; automaton(2) = 16; "
            + "automaton(3) = 3; mode(1) = 0; automaton(3) = 3; automaton(2) = 16");
        CHECK.onText("24: edges at first are counted once", "n1;r0,d,0,d,0;t0,a;t0,a;t0,ab;t0,ab;", "automaton(0) = 5; "
            + "automaton(1) = 9; automaton(2) = 9; automaton(3) = 0");
        CHECK.onText("24: nothing but any", "n1;r0,a,0,ab,0;", "automaton(0) = 3; automaton(1) = 4; automaton(2) = 4; "
            + "automaton(3) = 0");
        // A later round finds a smaller weight for an edge of the first round.
        CHECK.onText("24: a round that changes a weight alone", "n1;r0,a,0,,9;r0,a,0,bb,1;r0,b,0,c,1;r0,c,0,,1;t0,;c0,a;",
            "automaton(2) = 7; automaton(3) = 3; edge(0, 0, 0) = 5; mode(1) = 0; automaton(3) = 2; edge(0, 0, 0) = 1; "
            + "mode(2) = 1; automaton(3) = 3; edge(0, 0, 0) = 1");
        CHECK.onText("24: rounds use only the edges from before", "n1;r0,a,0,,1;r0,b,0,a,1;r0,c,0,b,1;r0,d,0,c,1;t0,;",
            "automaton(3) = 4; automaton(2) = 8; edge(0, 3, 0) = 4");
        CHECK.onText("24: the largest automaton", "n3;r0,a,0,,0;t0,abc;t1,abc;t2,abc;t0,bcd.;", "automaton(0) = 13; "
            + "automaton(1) = 16; edge(12, 3, 4) = 0; edge(11, 2, 12) = 0; edge(12, 0, 13) = -1; edge(13, 0, 0) = -1");
    }

    private static void needed() {
        CHECK.onNew("25", "needed() = 3; pop() = 0; pop() = 0; needed() = 0; go(1) = 0; needed() = 0");
        CHECK.onText("25: one of two", "n1;r0,a,0,b,0;r0,b,0,,0;r0,b,0,,5;r0,c,0,,0;t0,;c0,a;", "needed() = 1; drop(2) = 3; "
            + "needed() = 3; push(2) = 2; needed() = 7; push(3) = 3; needed() = 0");
        CHECK.onText("25: the only rule", "n1;r0,a,0,,0;t0,;c0,a;", "needed() = 1; pop() = 0; needed() = 0");
        CHECK.onText("25: ten rules", "n3;r0,a,1,,0;r1,a,2,,0;r2,a,0,b,0;r0,b,1,b,0;r1,b,2,b,0;r2,b,0,c,0;r0,c,1,c,0;"
            + "r1,c,2,c,0;r2,c,0,d,0;r0,d,0,,0;t0,;c0,aaa;", "needed() = 1023; run(-1) = 10; drop(9) = 9; needed() = 0");
    }

    private static void dear() {
        CHECK.onNew("26", "dear(-1) = -1; dear(7) = -1; dear(0) = 2; dear(1) = 1; dear(2) = 9; dear(3) = 9; dear(6) = 9; "
            + "mode(1) = 0; dear(0) = 9; mode(2) = 1; dear(0) = 3; dear(1) = 3; dear(2) = 3; count(4) = 2; rule(0, 6) = 2; "
            + "pop() = 0; pop() = 0; dear(0) = -4; dear(7) = -1");
        CHECK.onText("26: until the other way is cheaper", "n1;r0,a,0,,1;r0,a,0,b,2;r0,b,0,,3;t0,;c0,a;", "dear(0) = 1; "
            + "weigh(0, 5) = 1; price() = 5; dear(0) = 9; dear(1) = 9; dear(2) = 9; weigh(0, 6) = 5; price() = 5; dear(0) = 9; "
            + "dear(1) = 2; dear(2) = 3; weigh(0, 0) = 6; dear(0) = 0; pop() = 0; dear(0) = 9");
        CHECK.onText("26: a greatest cost elsewhere", "n1;r0,a,0,b,1;r0,b,0,,8;t0,;c0,a;m2;", "price() = 8; dear(0) = 8; "
            + "dear(1) = 8; weigh(1, 9) = 8; dear(0) = 9; dear(1) = 9");
    }

    private static void walk() {
        CHECK.onNew("27", "walk(-1, 1, 0) = -1; walk(10000, 1, 0) = -1; walk(0, 0, 0) = -1; walk(0, 61, 0) = -1; "
            + "walk(0, 1, -1) = -1; walk(0, 1, 3) = -1; walk(3, 9, 0) = 4; walk(9999, 60, 0) = 5; walk(0, 1, 0) = 1; "
            + "walk(0, 1, 1) = 3; walk(0, 1, 2) = 0; walk(0, 2, 1) = 2; walk(0, 2, 2) = 1; stack(-1) = 2; count(4) = 0; "
            + "pop() = 0; pop() = 0; walk(5, 60, 0) = 0; walk(5, 60, 1) = 0; walk(5, 60, 2) = 0");
        CHECK.onText("27: up to 12 letters", "n1;r0,a,0,aa,0;c0,a;", "walk(1, 60, 0) = 11; walk(1, 60, 1) = 12; "
            + "walk(1, 5, 1) = 6; stack(-1) = 1");
        // d is 0 for z = 0 and k = 0, and is told by the formula for the others.
        CHECK.onText("27: the rule with the index d % 3", "n3;r0,a,0,a,0;r1,a,1,a,0;r0,a,1,a,0;r0,a,2,a,0;c0,a;",
            walks(3, 60));
    }

    /** From state 0 the draw decides: stay, go to 1 for ever, or go to 2 and be stuck. */
    private static String walks(int rules, int n) {
        StringBuilder calls = new StringBuilder();
        for (int z = 0; z < 10000; z += 271) {
            int state = 0;
            int steps = 0;
            for (int k = 0; k < n && state != 2; k++, steps++) {
                long x = 7919L * z + 6151L * k + 1;
                long d = (x * x) % 65521 / 4;
                state = state == 0 ? (int) (d % rules) : 1;
            }
            calls.append("walk(").append(z).append(", 60, 2) = ").append(state).append("; ");
            calls.append("walk(").append(z).append(", 60, 0) = ").append(steps).append("; ");
        }
        return calls.append("walk(0, 1, 1) = 1").toString();
    }

    private static void savedStates() {
        CHECK.onNew("28", "keep() = 1; push(0) = 3; keep() = 2; keep() = -3; count(5) = 2; count(4) = 1; undo() = 0; "
            + "count(5) = 2; back() = 1; stack(-1) = 3; back() = 0; stack(-1) = 2; back() = -2; keep() = 1; count(5) = 1");
        CHECK.onNew("29", "back() = -2; weigh(0, 9) = 2; keep() = 1; mode(2) = 0; drop(0) = 6; go(1) = 0; pop() = 0; "
            + "write(110) = 1; count(4) = 5; back() = 0; count(4) = 0; undo() = -2; count(3) = 0; count(1) = 7; stack(-2) = 0; "
            + "stack(-1) = 2; rule(0, 6) = 9; count(6) = 1; price() = 16; run(-1) = 4; edge(0, 0, 1) = 13; back() = -2; "
            + "count(5) = 0; pop() = 0; undo() = 0; stack(-1) = 2");
    }

    private static void count() {
        CHECK.onNew("30", "count(-1) = -1; count(7) = -1; count(0) = 2; count(1) = 7; count(2) = 2; count(3) = 0; "
            + "enter(0, 0, 0, 0, 0) = 7; count(1) = 8; mode(1) = 0; count(3) = 1; count(4) = 2; keep() = 1; count(5) = 1; "
            + "write(65) = 1; count(6) = 1; count(2147483647) = -1; count(-2147483648) = -1");
    }
}
