import java.math.BigInteger;

/**
 * A test of its own for each sentence of the document that names a boundary case: too small, too large, empty,
 * full, a wrap-around, a refused call. The name of each check begins with the sentence.
 */
final class BoundaryTest {
    private static final Check CHECK = new Check();
    private static final int NONE = CallTowers.NONE;
    private static final int MIN = Integer.MIN_VALUE;
    private static final int MAX = Integer.MAX_VALUE;
    private static final String[] TEN = new String[10];

    static {
        for (int i = 0; i < 10; i++) {
            TEN[i] = "r0,a,0,," + i + ";";
        }
    }

    public static void main(String[] args) {
        lastCall();
        states();
        letters();
        rules();
        targets();
        text();
        firstItem();
        ruleItems();
        targetItems();
        configurationItems();
        modeItems();
        faultOfText();
        systemOfText();
        runs();
        shortestRun();
        nodes();
        firstEdges();
        words();
        accepted();
        rounds();
        limitsOfChanges();
        orderOfErrors();
        ranges();
        newObject();
        writeAndWipe();
        lay();
        properties();
        pushAndPop();
        step();
        go();
        enter();
        drop();
        weigh();
        mode();
        undo();
        price();
        run();
        headsAndEmpty();
        stuck();
        edge();
        automaton();
        needed();
        dear();
        walk();
        walkFormula();
        saved();
        count();
        CHECK.end("BoundaryTest");
    }

    private static void on(String sentence, String calls) {
        CHECK.onNew(sentence, calls);
    }

    private static void with(String sentence, String text, String calls) {
        CHECK.onText(sentence, text, calls);
    }

    private static void fault(String sentence, String text, int want) {
        CallTowers towers = new CallTowers();
        Check.type(towers, text);
        CHECK.same(sentence + ": the length of " + text, towers.count(6), text.length());
        CHECK.same(sentence + ": the fault of " + text, towers.fault(), want);
    }

    /** Each piece is faulty, alone and behind a good item. */
    private static void faulty(String sentence, String... pieces) {
        for (String piece : pieces) {
            fault(sentence, piece, 0);
            fault(sentence, "m0;" + piece, 3);
            fault(sentence, "m0;" + piece + "m0;", 3);
        }
    }

    private static void good(String sentence, String... texts) {
        for (String text : texts) {
            fault(sentence, text, NONE);
        }
    }

    private static void lastCall() {
        String sentence = "An object is used for at most 512 calls after it has been made";
        StringBuilder calls = new StringBuilder();
        for (int i = 0; i < 250; i++) {
            calls.append("go(").append(1 - i % 2).append(") = ").append(i % 2).append("; ");
            calls.append("price() = ").append(i % 2 == 0 ? 6 : 9).append("; ");
        }
        // Twelve more make 512.
        on(sentence, calls + "count(4) = 8; undo() = 7; undo() = 6; keep() = 1; weigh(0, 9) = 2; price() = 16; run(3) = 2; "
            + "run(0) = 0; back() = 0; undo() = -2; run(-1) = 4; price() = 9");
    }

    // ---- SYSTEMS

    private static void states() {
        String sentence = "The states are 0 to N - 1, where N is 1 to 3.";
        with(sentence, "n1;r0,a,0,,0;", "count(0) = 1; go(0) = -2; go(1) = -1; heads(0, 0) = 0; heads(1, 0) = -1; empty(0) = 1; "
            + "empty(1) = -1; enter(0, 0, 0, 0, 0) = 1; enter(1, 0, 0, 0, 0) = -1; enter(0, 0, 1, 0, 0) = -1");
        on(sentence, "count(0) = 2; go(2) = -1; go(1) = 0; heads(1, 0) = 1; heads(2, 0) = -1; empty(2) = -1; "
            + "enter(2, 0, 0, 0, 0) = -1; enter(0, 0, 2, 0, 0) = -1; enter(1, 0, 1, 0, 0) = 7");
        with(sentence, "n3;r0,a,0,,0;", "count(0) = 3; go(3) = -1; go(2) = 0; heads(2, 3) = 0; heads(3, 0) = -1; empty(2) = 1; "
            + "empty(3) = -1; enter(2, 0, 2, 0, 0) = 1; enter(3, 0, 0, 0, 0) = -1; enter(0, 0, 3, 0, 0) = -1");
        good(sentence, "n1;", "n2;", "n3;");
        faulty(sentence, "n0;", "n4;", "n9;");
        fault(sentence, "n1;r1,a,0,,0;", 3);
        fault(sentence, "n1;r0,a,1,,0;", 3);
        fault(sentence, "n2;t2,;", 3);
        fault(sentence, "n2;c2,;", 3);
        good(sentence, "n3;r2,a,2,,0;t2,;t2,.;c2,;");
        fault(sentence, "n3;r3,a,0,,0;", 3);
        fault(sentence, "n3;r0,a,3,,0;", 3);
        fault(sentence, "n3;t3,;", 3);
        fault(sentence, "n3;c3,;", 3);
    }

    private static void letters() {
        String sentence = "The letters are a, b, c, d, numbered 0 to 3.";
        with(sentence, "n1;r0,a,0,bc,0;r0,d,0,d,0;t0,abd;c0,abcd;", "stack(0) = 0; stack(1) = 1; stack(2) = 2; stack(3) = 3; "
            + "rule(0, 1) = 0; rule(0, 4) = 1; rule(0, 5) = 2; rule(1, 1) = 3; rule(1, 4) = 3; target(0, 3) = 0; target(0, 4) = 1; "
            + "target(0, 5) = 3; push(3) = 5; push(4) = -1; push(-1) = -1; heads(0, 3) = 1; heads(0, 4) = -1; "
            + "edge(0, 3, 0) = -4; edge(0, 4, 0) = -1; enter(0, 3, 0, 0, 0) = 2; enter(0, 4, 0, 0, 0) = -1");
        for (String sign : new String[] {"e", "`", "A", "D", "0", "_", " "}) {
            faulty(sentence, "r0," + sign + ",0,,0;", "r0,a,0," + sign + ",0;", "r0,a,0,a" + sign + ",0;", "t0," + sign + ";",
                "t0,a" + sign + ".;", "c0," + sign + ";", "c0,abcda" + sign + ";");
        }
    }

    private static void rules() {
        String sentence = "a word W of 0 to 2 letters, and a cost from 0 to 9";
        with(sentence, "n1;r0,a,0,,0;r0,a,0,d,9;r0,a,0,dc,5;", "rule(0, 3) = 0; rule(0, 6) = 0; rule(1, 3) = 1; rule(1, 6) = 9; "
            + "rule(2, 3) = 2; rule(2, 4) = 3; rule(2, 5) = 2");
        faulty(sentence, "r0,a,0,abc,0;", "r0,a,0,dddd,9;", "r0,a,0,,10;", "r0,a,0,,/;", "r0,a,0,,:;", "r0,a,0,,-1;");
        sentence = "if X is the top letter, it replaces X by W (the first letter of W becomes the top one), and the state "
            + "becomes Q";
        with(sentence, "n3;r0,a,1,,0;r1,b,2,cd,0;r2,c,0,a,0;c0,a;", "step(0) = 0; stack(-1) = 0; stack(-2) = 1; stack(0) = -4; "
            + "step(0) = -2; step(1) = -2; push(1) = 1; step(1) = 2; stack(-2) = 2; stack(0) = 2; stack(1) = 3; step(2) = 2; "
            + "stack(-2) = 0; stack(0) = 0; stack(1) = 3; step(0) = 1; stack(0) = 3; step(1) = -2");
        sentence = "There are 1 to 10 rules, numbered from 0.";
        with(sentence, "r0,a,0,,7;", "count(1) = 1; rule(0, 6) = 7; rule(1, 6) = -1; rule(-1, 6) = -1; drop(0) = -2; drop(1) = -1; "
            + "dear(1) = -1; step(1) = -1; weigh(1, 0) = -1");
        with(sentence, String.join("", TEN), "count(1) = 10; rule(9, 6) = 9; rule(10, 6) = -1; enter(0, 0, 0, 0, 0) = -3; "
            + "weigh(9, 0) = 9; weigh(10, 0) = -1; dear(9) = -4; dear(10) = -1; step(9) = -2; step(10) = -1; drop(10) = -1; "
            + "drop(9) = 9; rule(9, 6) = -1; enter(0, 0, 0, 0, 3) = 9; rule(9, 6) = 3");
    }

    private static void targets() {
        String sentence = "A target has a state and a word of 0 to 3 letters";
        with(sentence, "r0,a,0,,0;t0,;t1,d;t0,dc;t1,dcb;", "target(0, 1) = 0; target(1, 1) = 1; target(2, 1) = 2; "
            + "target(3, 1) = 3; target(3, 0) = 1; target(0, 3) = -4; target(1, 3) = 3; target(1, 4) = -4; target(2, 4) = 2; "
            + "target(2, 5) = -4; target(3, 5) = 1");
        faulty(sentence, "t0,abcd;", "t0,abcd.;", "t0,aaaaa;");
        sentence = "exact, that is, the configuration with this state and this stack";
        with(sentence, "n2;r1,d,1,,0;t0,ab;c0,ab;", "price() = 0; push(0) = 3; price() = -4; pop() = 0; pop() = 0; price() = -4; "
            + "push(0) = 2; price() = 0; go(1) = 0; price() = -4; go(0) = 1; pop() = 0; pop() = 1; price() = -4");
        with(sentence, "n2;r1,d,1,,0;t0,;c0,;", "price() = 0; go(1) = 0; price() = -4; go(0) = 1; push(0) = 1; price() = -4");
        sentence = "open: all configurations with this state whose stacks begin with this word at the top";
        with(sentence, "n2;r1,d,1,,0;t0,ab.;c0,ab;", "price() = 0; pop() = 0; price() = -4; push(3) = 2; push(1) = 3; push(0) = 4; "
            + "price() = 0; pop() = 0; pop() = 1; price() = -4; pop() = 3; push(0) = 2; price() = 0; go(1) = 0; price() = -4");
        with(sentence, "n2;r1,d,1,,0;t0,.;c0,;", "price() = 0; push(3) = 1; price() = 0; push(0) = 2; price() = 0; go(1) = 0; "
            + "price() = -4");
        sentence = "There are at most 4 targets, numbered from 0.";
        with(sentence, "r0,a,0,,0;", "count(2) = 0; target(0, 0) = -1");
        with(sentence, "r0,a,0,,0;t1,;", "count(2) = 1; target(0, 0) = 1; target(1, 0) = -1; target(-1, 0) = -1");
        with(sentence, "r0,a,0,,0;t1,;t0,a.;t1,b;t1,c;", "count(2) = 4; target(3, 0) = 1; target(3, 3) = 2; target(4, 0) = -1");
        sentence = "There is a present configuration, and a mode: 0 sum, 1 steps, 2 worst.";
        on(sentence, "count(3) = 0; price() = 9; mode(-1) = -1; mode(3) = -1; mode(1) = 0; price() = 4; mode(2) = 1; price() = 3; "
            + "mode(0) = 2; price() = 9");
    }

    private static void text() {
        String sentence = "A system is written as a text of at most 200 characters, which is empty at first.";
        on(sentence, "count(6) = 0; fault() = -4; wipe() = 0");
        String longest = "m0;".repeat(63) + "r0,a,0,d,9;";
        CallTowers full = new CallTowers();
        Check.type(full, longest);
        CHECK.on(sentence, full, "count(6) = 200; write(59) = -3; fault() = -4; lay() = 1; rule(0, 6) = 9; count(6) = 200");
        // What did not fit would have been the end of the item.
        CallTowers cut = new CallTowers();
        Check.type(cut, "m1;".repeat(63) + "r0,a,0,dd,9");
        CHECK.on(sentence, cut, "count(6) = 200; fault() = 189; write(59) = -3; fault() = 189; lay() = -2");
        sentence = "It is a sequence of items without separators";
        fault(sentence, "m0; m0;", 3);
        fault(sentence, "m0;;m0;", 3);
        fault(sentence, "m0,m0;", 0);
        fault(sentence, "m0;m0", 3);
        fault(sentence, " m0;", 0);
        fault(sentence, "m0; ", 3);
        sentence = "numbers have one digit";
        faulty(sentence, "n02;", "n22;", "n;", "r00,a,0,,0;", "r,a,0,,0;", "r0,a,00,,0;", "r0,a,,,0;", "r0,a,0,,00;", "r0,a,0,,;",
            "t00,;", "t,;", "c00,;", "c,;", "m00;", "m;");
        sentence = "words are written as their letters one after another, perhaps none";
        good(sentence, "r0,a,0,,0;", "r0,a,0,d,0;", "r0,a,0,dd,0;", "t0,;", "t0,.;", "t0,ddd;", "t0,ddd.;", "c0,;", "c0,dddddd;");
        faulty(sentence, "r0,a,0,a b,0;", "r0,a,0,a,b,0;", "t0,a,b;", "c0,a,b;", "r0,,0,,0;", "r0,aa,0,,0;");
    }

    private static void firstItem() {
        String sentence = "\"n\" N \";\" number of states, 1 to 3; only as the first item; 2 without it";
        good(sentence, "n1;", "n2;", "n3;", "n1;r0,a,0,,0;", "r1,a,1,,0;t1,;c1,;");
        faulty(sentence, "n0;", "n4;", "n-;", "n", "n2", "n2,", "N2;");
        fault(sentence, "n2;n2;", 3);
        fault(sentence, "n2;n3;", 3);
        fault(sentence, "m0;n2;", 3);
        fault(sentence, "r0,a,0,,0;n2;", 10);
        fault(sentence, "t0,;n1;", 4);
        fault(sentence, "c0,;n1;", 4);
        fault(sentence, "r2,a,0,,0;", 0);
        with(sentence, "r1,a,1,,0;", "count(0) = 2; go(2) = -1; go(1) = 0");
    }

    private static void ruleItems() {
        String sentence = "\"r\" P \",\" X \",\" Q \",\" W \",\" C \";\" adds a rule with the cost C; at most 10";
        String ten = String.join("", TEN);
        good(sentence, TEN[0], ten, ten + "t0,;c0,;m2;");
        fault(sentence, ten + TEN[0], 100);
        fault(sentence, "n1;" + ten + TEN[9] + TEN[8], 103);
        fault(sentence, ten + "t0,;" + TEN[3] + "x", 104);
        fault(sentence, ten + "r", 100);
        fault(sentence, ten + "x", 100);
        with(sentence, ten, "count(1) = 10; rule(0, 6) = 0; rule(9, 6) = 9");
        CallTowers eleven = new CallTowers();
        Check.type(eleven, ten + TEN[0]);
        CHECK.on(sentence, eleven, "fault() = 100; lay() = -2; count(1) = 7");
    }

    private static void targetItems() {
        String sentence = "\"t\" P \",\" W \";\" adds an exact target; at most 4 targets; \"t\" P \",\" W \".;\" adds an open target";
        good(sentence, "t0,;t0,;t0,;t0,;", "t0,.;t0,.;t0,.;t0,.;", "t0,abc;t0,abc.;t0,;t0,.;");
        fault(sentence, "t0,;t0,;t0,;t0,;t0,;", 16);
        fault(sentence, "t0,;t0,;t0,;t0,;t0,.;", 16);
        fault(sentence, "t0,.;t0,.;t0,.;t0,.;t0,;", 20);
        fault(sentence, "t0,.;t0,.;t0,.;t0,.;m0;t0,.;", 23);
        faulty(sentence, "t0,..;", "t0,.a;", "t0.;", "t0,a,.;", "t0,abcd.;", "t0,. ;", "t0.,;");
        with(sentence, "r0,a,0,,0;t0,abc;t1,abc.;t0,;t1,.;", "count(2) = 4; target(0, 2) = 0; target(1, 2) = 1; "
            + "target(2, 2) = 0; target(3, 2) = 1; target(2, 1) = 0; target(3, 1) = 0");
    }

    private static void configurationItems() {
        String sentence = "\"c\" P \",\" W \";\" the present configuration, with up to 6 letters, top letter first; state 0 and "
            + "no letters without it; the last one counts";
        good(sentence, "c0,;", "c1,a;", "c0,abcdab;");
        faulty(sentence, "c0,abcdabc;", "c0,aaaaaaaaaaaa;", "c2,;", "c0,.;", "c0,a.;", "c0;");
        with(sentence, "r0,a,0,,0;", "stack(-2) = 0; stack(-1) = 0; stack(0) = -4; pop() = -2");
        with(sentence, "r0,a,0,,0;c1,dcbabc;", "stack(-2) = 1; stack(-1) = 6; stack(0) = 3; stack(1) = 2; stack(2) = 1; "
            + "stack(3) = 0; stack(4) = 1; stack(5) = 2; stack(6) = -4");
        with(sentence, "r0,a,0,,0;c1,dddddd;c0,ab;", "stack(-2) = 0; stack(-1) = 2; stack(0) = 0; stack(1) = 1; stack(2) = -4");
        with(sentence, "r0,a,0,,0;c1,dddddd;c0,;", "stack(-2) = 0; stack(-1) = 0");
        with(sentence, "c0,aa;r0,a,0,,0;c1,b;", "stack(-2) = 1; stack(-1) = 1; stack(0) = 1");
    }

    private static void modeItems() {
        String sentence = "\"m\" M \";\" the mode, 0 to 2; 0 without it; the last one counts";
        good(sentence, "m0;", "m1;", "m2;", "m2;m1;m0;m2;");
        faulty(sentence, "m3;", "m9;", "m-;", "m/;", "m", "m1", "m11;");
        with(sentence, "r0,a,0,,0;", "count(3) = 0");
        with(sentence, "m2;r0,a,0,,0;", "count(3) = 2; mode(2) = -2");
        with(sentence, "m2;r0,a,0,,0;m1;", "count(3) = 1; mode(1) = -2");
        with(sentence, "m2;r0,a,0,,0;m0;", "count(3) = 0; mode(0) = -2");
    }

    private static void faultOfText() {
        String sentence = "The fault of a text is the index of the first character of the first item that is not as described";
        fault(sentence, "m0;m3;m4;", 3);
        fault(sentence, "x", 0);
        fault(sentence, "m0;t0,;c0,a;x", 12);
        fault(sentence, "r0,a,0,,0;r0,a,0,abc,0;r0,a,0,,0;", 10);
        for (int code = 32; code <= 126; code++) {
            if ("nrtcm".indexOf(code) < 0) {
                fault(sentence, "" + (char) code, 0);
                fault(sentence, "m0;" + (char) code + "m0;", 3);
            }
        }
        sentence = "(also if it is incomplete, or one too many)";
        for (String item : new String[] {"r0,a,0,cd,5;", "r1,d,1,,0;", "t0,abc;", "t0,abc.;", "t1,;", "t1,.;", "c0,abcdab;", "c1,;",
            "m2;"}) {
            good(sentence, item, "m0;" + item);
            for (int length = 1; length < item.length(); length++) {
                fault(sentence, item.substring(0, length), 0);
                fault(sentence, "m0;" + item.substring(0, length), 3);
                // Here the text ends because there is room for no more.
                fault(sentence, padded(length) + item.substring(0, length), 200 - length);
            }
        }
        fault(sentence, "n", 0);
        fault(sentence, "n2", 0);
        fault(sentence, String.join("", TEN) + "m0;" + TEN[0], 103);
        fault(sentence, "t0,;".repeat(5), 16);
        sentence = "there is none if there is no such item, also if the text is empty";
        good(sentence, "", "m0;", "n3;", String.join("", TEN) + "t0,;".repeat(4) + "c0,;c0,;m0;m0;");
    }

    /** Good items that leave so much room in the text. */
    private static String padded(int room) {
        int fours = (200 - room) % 3;
        return "c0,;".repeat(fours) + "m0;".repeat((200 - room - 4 * fours) / 3);
    }

    private static void systemOfText() {
        String sentence = "The text is a system if it has no fault and at least one rule.";
        on(sentence, "fault() = -4; lay() = -2; count(1) = 7");
        CallTowers noRule = new CallTowers();
        Check.type(noRule, "n1;t0,;c0,a;m1;");
        CHECK.on(sentence, noRule, "fault() = -4; lay() = -2; count(0) = 2; count(1) = 7; count(2) = 2; count(3) = 0; "
            + "stack(-1) = 2");
        CallTowers faulty = new CallTowers();
        Check.type(faulty, "n1;r0,a,0,,0;m3;");
        CHECK.on(sentence, faulty, "fault() = 13; lay() = -2; count(0) = 2; count(1) = 7");
        with(sentence, "r0,a,0,,0;", "count(1) = 1");
        sentence = "At first the system is that of ..., which is not the text.";
        on(sentence, "count(0) = 2; count(1) = 7; count(2) = 2; count(3) = 0; count(6) = 0; fault() = -4; lay() = -2; wipe() = 0; "
            + "count(1) = 7; rule(0, 0) = 0; rule(0, 1) = 0; rule(0, 2) = 0; rule(0, 3) = 2; rule(0, 4) = 1; rule(0, 5) = 0; "
            + "rule(0, 6) = 2; rule(6, 0) = 0; rule(6, 1) = 2; rule(6, 2) = 1; rule(6, 3) = 0; rule(6, 6) = 4; target(0, 0) = 1; "
            + "target(0, 1) = 0; target(0, 2) = 0; target(1, 0) = 0; target(1, 1) = 2; target(1, 2) = 1; stack(-2) = 0; "
            + "stack(-1) = 2");
    }

    // ---- RUNS

    private static void runs() {
        String sentence = "A run is a sequence of steps, perhaps none, after which the configuration is one of the targets";
        with(sentence, "n1;r0,a,0,,7;t0,a;c0,a;", "price() = 0; run(-1) = 0; run(0) = -4; mode(1) = 0; price() = 0; mode(2) = 1; "
            + "price() = 0; push(0) = 2; run(-1) = 1; price() = 7");
        sentence = "the stack may become arbitrarily high";
        // From 12 letters on the stack grows by 4 before it shrinks for the first time.
        with(sentence, "n1;r0,a,0,bb,1;r0,b,0,cc,1;r0,c,0,dd,1;r0,d,0,,1;t0,;c0,dddddd;",
            "push(3) = 7; push(3) = 8; push(3) = 9; push(3) = 10; push(3) = 11; push(0) = 12; price() = 26; run(-1) = 26; "
            + "run(0) = 0; run(1) = 1; run(2) = 2; run(3) = 3; run(25) = 3; run(26) = -4; step(0) = -3; heads(0, 1) = 1; "
            + "heads(0, 2) = 1; needed() = 15; mode(2) = 0; price() = 1");
        highestRun(sentence);
        sentence = "It costs, with mode 0, the sum of the costs of its rules; with mode 1 the number of its steps";
        with(sentence, "n1;r0,a,0,,0;t0,;c0,aa;", "price() = 0; run(-1) = 2; mode(1) = 0; price() = 2");
        with(sentence, "n1;r0,a,0,,9;t0,;c0,aaaaaa;", "price() = 54; run(-1) = 6; mode(1) = 0; price() = 6");
        sentence = "with mode 2 the greatest cost of its rules (0 without steps)";
        with(sentence, "n1;r0,a,0,,9;r0,b,0,,4;t0,;c0,;m2;", "price() = 0; push(1) = 1; price() = 4; push(0) = 2; price() = 9; "
            + "push(1) = 3; price() = 9; weigh(0, 0) = 9; price() = 4; weigh(1, 0) = 4; price() = 0; run(-1) = 3");
        sentence = "it has none if there is no run";
        with(sentence, "n1;r0,a,0,a,0;t0,;c0,a;", "price() = -4; run(-1) = -4; run(0) = -4; needed() = 0; dear(0) = -4; "
            + "mode(1) = 0; price() = -4; mode(2) = 1; price() = -4; pop() = 0; price() = 0");
        with(sentence, "n1;r0,a,0,,0;c0,a;", "price() = -4; pop() = 0; price() = -4");
    }

    /** On 12 letters the shortest run piles up 20 more before they are removed one by one. */
    private static void highestRun(String sentence) {
        String text = "n3;r0,b,0,cd,3;r0,a,1,cd,4;r1,d,0,ad,7;r2,b,0,bd,3;r1,d,0,,8;r2,d,1,,8;r1,a,1,dd,4;r1,c,2,bd,3;"
            + "r0,c,1,ad,5;r0,d,2,,0;t2,;c0,dddddd;";
        String run = "1730862173086217308649549549549549549549549549549549";
        CallTowers towers = CHECK.onText(sentence, text, "push(3) = 7; push(3) = 8; push(3) = 9; push(3) = 10; push(3) = 11; "
            + "push(0) = 12; run(-1) = " + run.length() + "; run(" + run.length() + ") = -4; mode(1) = 0; price() = "
            + run.length() + "; mode(0) = 1; needed() = 1023; step(0) = -2; step(1) = -3");
        int height = 12;
        int highest = height;
        int price = 0;
        for (int k = 0; k < run.length(); k++) {
            int r = towers.run(k);
            CHECK.same(sentence + ": run(" + k + ")", r, run.charAt(k) - '0');
            price += towers.rule(r, 6);
            height += towers.rule(r, 3) - 1;
            highest = Math.max(highest, height);
        }
        CHECK.same(sentence + ": the highest stack", highest, 32);
        CHECK.same(sentence + ": the stack at the end", height, 0);
        // Here the shortest run is also the cheapest one.
        CHECK.same(sentence + ": the price", towers.price(), price);
        CHECK.same(sentence + ": the highest step again", towers.run(20), run.charAt(20) - '0');
    }

    private static void shortestRun() {
        String sentence = "The shortest run is the run with the fewest steps, whatever the mode is";
        with(sentence, "n1;r0,a,0,b,0;r0,b,0,c,0;r0,c,0,,0;r0,a,0,,9;t0,;c0,a;", "price() = 0; run(-1) = 1; run(0) = 3; "
            + "mode(1) = 0; price() = 1; run(0) = 3; mode(2) = 1; price() = 0; run(-1) = 1; run(0) = 3; run(1) = -4");
        sentence = "of several the one with the smallest first rule, then the smallest second rule, and so on";
        with(sentence, "n3;r0,a,2,b,0;r0,a,1,b,0;r1,b,0,,0;r1,b,0,c,0;r2,b,0,,9;r2,b,0,,0;t0,;c0,aa;", "run(-1) = 4; run(0) = 0; "
            + "run(1) = 4; run(2) = 0; run(3) = 4; drop(0) = 5; run(0) = 0; run(1) = 1; run(2) = 0; run(3) = 1");
        // The smallest rule that fits leads nowhere, or further.
        with(sentence, "n2;r0,a,1,a,0;r0,a,0,b,0;r0,a,0,,0;r0,b,0,,0;t0,;c0,a;", "run(-1) = 1; run(0) = 2; drop(2) = 3; "
            + "run(-1) = 2; run(0) = 1; run(1) = 2");
    }

    // ---- THE AUTOMATON

    private static void nodes() {
        String sentence = "The nodes are numbered: 0 to N - 1 for the states; N, the end; N + 1, any; and then, for each target in "
            + "order, one behind each of its letters but the last one.";
        with(sentence, "n1;r0,a,0,aa,0;", "automaton(0) = 3; edge(2, 0, 2) = 0; edge(3, 0, 0) = -1; edge(0, 0, 3) = -1");
        with(sentence, "n1;r0,a,0,aa,0;t0,;t0,.;t0,a;t0,b.;", "automaton(0) = 3; edge(0, 0, 1) = 0; edge(0, 1, 2) = 0; "
            + "edge(3, 0, 0) = -1");
        with(sentence, "n1;r0,d,0,dd,0;t0,ab;t0,;t0,abc.;t0,ca;", "automaton(0) = 7; edge(0, 0, 3) = 0; edge(3, 1, 1) = 0; "
            + "edge(0, 0, 4) = 0; edge(4, 1, 5) = 0; edge(5, 2, 2) = 0; edge(0, 2, 6) = 0; edge(6, 0, 1) = 0; edge(7, 0, 0) = -1; "
            + "edge(0, 0, 7) = -1; edge(3, 1, 5) = -4; edge(4, 1, 1) = -4");
        with(sentence, "n3;r0,d,0,dd,0;t0,abc;t1,bca;t2,cab.;t2,dda;", "automaton(0) = 13; edge(0, 0, 5) = 0; edge(5, 1, 6) = 0; "
            + "edge(6, 2, 3) = 0; edge(1, 1, 7) = 0; edge(7, 2, 8) = 0; edge(8, 0, 3) = 0; edge(2, 2, 9) = 0; edge(9, 0, 10) = 0; "
            + "edge(10, 1, 4) = 0; edge(2, 3, 11) = 0; edge(11, 3, 12) = 0; edge(12, 0, 3) = 0; edge(12, 3, 12) = -4; "
            + "edge(13, 0, 0) = -1; edge(0, 0, 13) = -1");
    }

    private static void firstEdges() {
        String sentence = "the edge of the last letter to the end, or to any if the target is open";
        with(sentence, "n1;r0,d,0,dd,0;t0,a;t0,b.;", "edge(0, 0, 1) = 0; edge(0, 0, 2) = -4; edge(0, 1, 2) = 0; "
            + "edge(0, 1, 1) = -4; automaton(1) = 6");
        sentence = "from any to any by each letter";
        with(sentence, "n1;r0,d,0,dd,0;", "automaton(1) = 4; edge(2, 0, 2) = 0; edge(2, 1, 2) = 0; edge(2, 2, 2) = 0; "
            + "edge(2, 3, 2) = 0; edge(1, 0, 1) = -4; edge(2, 0, 1) = -4; edge(2, 0, 0) = -4");
        sentence = "for each open target without letters from the node of its state to any by each letter";
        with(sentence, "n2;r0,d,0,dd,9;t1,.;", "automaton(1) = 8; edge(1, 0, 3) = 0; edge(1, 1, 3) = 0; edge(1, 2, 3) = 0; "
            + "edge(1, 3, 3) = 0; edge(0, 0, 3) = -4; edge(1, 0, 2) = -4");
        with(sentence, "n2;r0,d,0,dd,9;t1,;", "automaton(1) = 4; edge(1, 0, 3) = -4; edge(1, 0, 2) = -4");
        // The same edge of two targets is one edge.
        with(sentence, "n2;r0,d,0,dd,9;t1,.;t1,.;t1,a.;t0,.;", "automaton(1) = 12");
    }

    private static void words() {
        String sentence = "(by no edge from the node to itself, if the word is empty)";
        with(sentence, "n2;r0,a,1,,5;r1,b,1,,3;", "edge(0, 0, 1) = 5; edge(0, 0, 0) = -4; edge(0, 0, 2) = -4; edge(0, 0, 3) = -4; "
            + "edge(1, 1, 1) = 3; edge(1, 1, 0) = -4; automaton(2) = 6");
        sentence = "its weight is the sum of their weights, or with mode 2 the greatest one (0 without edges)";
        with(sentence, "n1;r0,a,0,,0;r0,b,0,,9;r0,c,0,ab,4;r0,d,0,bb,2;", "edge(0, 0, 0) = 0; edge(0, 1, 0) = 9; "
            + "edge(0, 2, 0) = 13; edge(0, 3, 0) = 20; mode(1) = 0; edge(0, 0, 0) = 1; edge(0, 1, 0) = 1; edge(0, 2, 0) = 3; "
            + "mode(2) = 1; edge(0, 0, 0) = 0; edge(0, 1, 0) = 9; edge(0, 2, 0) = 9; edge(0, 3, 0) = 9; weigh(1, 1) = 9; "
            + "edge(0, 2, 0) = 4; edge(0, 3, 0) = 2");
    }

    private static void accepted() {
        String sentence = "A configuration is accepted if its stack is read from the node of its state to the end, to any, or to "
            + "the node of a state of a target without letters.";
        with(sentence, "n3;r2,d,2,,0;t0,ab;c0,ab;", "price() = 0; pop() = 0; price() = -4; pop() = 1; price() = -4; go(1) = 0; "
            + "price() = -4");
        with(sentence, "n3;r2,d,2,,0;t0,a.;c0,adcb;", "price() = 0; pop() = 0; price() = -4; go(2) = 0; price() = -4");
        with(sentence, "n3;r2,d,2,,0;t2,;c2,;", "price() = 0; push(3) = 1; price() = 0; push(3) = 2; price() = 0; push(0) = 3; "
            + "price() = -4; go(0) = 2; price() = -4; pop() = 0; pop() = 3; pop() = 3; price() = -4; go(1) = 0; price() = -4");
        with(sentence, "n3;r2,d,1,,4;t1,.;c2,d;", "price() = 4; pop() = 3; price() = -4; go(1) = 2; price() = 0; push(0) = 1; "
            + "price() = 0; go(2) = 1; price() = -4; push(3) = 2; price() = 4");
    }

    private static void rounds() {
        String sentence = "A round adds the following edges, all by the edges that were there before the round";
        with(sentence, "n1;r0,d,0,,1;r0,c,0,d,1;r0,b,0,c,1;r0,a,0,b,1;", "automaton(3) = 4; edge(0, 0, 0) = 4");
        with(sentence, "n1;r0,a,0,b,1;r0,b,0,c,1;r0,c,0,d,1;r0,d,0,,1;", "automaton(3) = 4; edge(0, 0, 0) = 4");
        sentence = "Its weight is the cost of the rule (1 with mode 1) plus the smallest weight of the word read so, or with "
            + "mode 2 the greater one of both.";
        with(sentence, "n2;r0,a,0,,0;r0,a,1,,5;r1,b,0,,9;r0,b,0,,7;r0,c,0,ab,3;", "edge(0, 2, 0) = 10; mode(1) = 0; "
            + "edge(0, 2, 0) = 3; mode(2) = 1; edge(0, 2, 0) = 7; weigh(4, 8) = 3; edge(0, 2, 0) = 8; weigh(4, 0) = 8; "
            + "weigh(3, 9) = 7; weigh(2, 1) = 9; edge(0, 2, 0) = 5");
        sentence = "If there is such an edge already, the smaller weight stays.";
        with(sentence, "n1;r0,a,0,b,9;t0,a;t0,b;", "edge(0, 0, 1) = 0; automaton(2) = 6; automaton(3) = 0");
        with(sentence, "n1;r0,a,0,,3;r0,a,0,,2;r0,a,0,,4;", "edge(0, 0, 0) = 2; automaton(3) = 1");
        with(sentence, "n1;r0,a,0,,9;r0,a,0,b,1;r0,b,0,c,1;r0,c,0,,1;", "edge(0, 0, 0) = 3; automaton(3) = 3; automaton(2) = 7");
        sentence = "Rounds are executed until one changes nothing; that one is not counted.";
        with(sentence, "n1;r0,a,0,aa,0;", "automaton(3) = 0; automaton(1) = 4; automaton(2) = 4");
        with(sentence, "n1;r0,a,0,aa,0;r0,b,0,,0;", "automaton(3) = 1; automaton(1) = 4; automaton(2) = 5");
        with(sentence, "n1;r0,a,0,,9;r0,a,0,a,0;", "automaton(3) = 1; automaton(2) = 5; edge(0, 0, 0) = 9");
        sentence = "(Then exactly those configurations are accepted from which there is a run.)";
        with(sentence, "n1;r0,a,0,aa,0;r0,a,0,ab,0;t0,;c0,a;", "price() = -4; enter(0, 0, 0, 0, 0) = 2; price() = 0; push(1) = 2; "
            + "price() = -4; enter(0, 1, 0, 0, 0) = 3; price() = 0");
    }

    // ---- CHANGES and ERRORS

    private static void limitsOfChanges() {
        String sentence = "The stack of the present configuration has at most 12 letters.";
        on(sentence, fill(10) + "stack(-1) = 12; push(0) = -3; push(3) = -3; stack(-1) = 12; stack(11) = 0; stack(12) = -4; "
            + "pop() = 3; push(0) = 12; push(0) = -3; step(0) = -3; stack(-1) = 12");
        sentence = "The calls of push(), pop(), step(), go(), enter(), drop(), weigh() and mode() that return no error can be "
            + "undone; the latest 8 are kept for that.";
        on(sentence, "push(1) = 3; count(4) = 1; pop() = 1; count(4) = 2; step(0) = 3; count(4) = 3; go(1) = 0; count(4) = 4; "
            + "enter(0, 0, 0, 0, 0) = 7; count(4) = 5; drop(7) = 7; count(4) = 6; weigh(0, 0) = 2; count(4) = 7; mode(1) = 0; "
            + "count(4) = 8; push(0) = 4; count(4) = 8; undo() = 7; undo() = 6; undo() = 5; undo() = 4; undo() = 3; undo() = 2; "
            + "undo() = 1; undo() = 0; undo() = -2; stack(-1) = 3; stack(0) = 1");
        on(sentence, "keep() = 1; write(110) = 1; wipe() = 1; fault() = -4; lay() = -2; price() = 9; run(0) = 0; walk(0, 1, 0) = 1; "
            + "count(4) = 0; undo() = -2");
        sentence = "Up to 2 states of everything but the text (rules, targets, mode, configuration) can be saved.";
        on(sentence, "keep() = 1; keep() = 2; keep() = -3; count(5) = 2");
        CallTowers towers = CHECK.onText(sentence, "n3;r2,d,1,cb,7;t2,cab.;c1,ba;m2;", "keep() = 1; wipe() = 32");
        Check.type(towers, "r0,a,0,,0;");
        CHECK.on(sentence, towers, "enter(0, 0, 0, 0, 0) = 1; weigh(0, 1) = 7; mode(0) = 2; go(0) = 1; pop() = 1; back() = 0; "
            + "count(6) = 10; count(0) = 3; count(1) = 1; count(2) = 1; count(3) = 2; stack(-2) = 1; stack(-1) = 2; "
            + "stack(0) = 1; rule(0, 0) = 2; rule(0, 6) = 7; target(0, 1) = 3; target(0, 2) = 1; target(0, 5) = 1");
    }

    /** The calls that put so many letters on the two at first; the last one is d. */
    private static String fill(int letters) {
        StringBuilder calls = new StringBuilder();
        for (int i = 1; i <= letters; i++) {
            calls.append("push(").append(i == letters ? 3 : 0).append(") = ").append(2 + i).append("; ");
        }
        return calls.toString();
    }

    private static void orderOfErrors() {
        String sentence = "If several errors apply, the first one in the order BAD, NO, FULL is returned";
        on(sentence, fill(10) + "push(4) = -1; push(-1) = -1; push(0) = -3");
        // With 12 letters: no such rule; a rule of another head with two letters; a rule of this head with two letters.
        with(sentence, "n2;r0,b,0,aa,0;r1,a,0,aa,0;r0,a,0,aa,0;c0,aaaaaa;", "push(0) = 7; push(0) = 8; push(0) = 9; push(0) = 10; "
            + "push(0) = 11; push(0) = 12; step(3) = -1; step(-1) = -1; step(0) = -2; step(1) = -2; step(2) = -3");
        with(sentence, "r0,a,0,,0;", "drop(1) = -1; drop(-1) = -1; drop(0) = -2; step(0) = -2; step(1) = -1");
        with(sentence, String.join("", TEN), "enter(2, 0, 0, 0, 0) = -1; enter(0, 4, 0, 0, 0) = -1; enter(0, 0, 2, 0, 0) = -1; "
            + "enter(0, 0, 0, 21, 0) = -1; enter(0, 0, 0, 0, 10) = -1; enter(0, 0, 0, 0, 0) = -3");
        on(sentence, "weigh(7, 2) = -1; weigh(0, 10) = -1; weigh(7, 10) = -1; weigh(0, 2) = -2");
        CallTowers full = new CallTowers();
        Check.type(full, "m".repeat(200));
        CHECK.on(sentence, full, "write(31) = -1; write(127) = -1; write(32) = -3; write(126) = -3");
        sentence = "and NONE (there is no value) only if there is no error";
        on(sentence, "pop() = 0; pop() = 0; price() = -4; run(-2) = -1; run(-1) = -4; dear(-1) = -1; dear(7) = -1; dear(0) = -4; "
            + "stack(-3) = -1; stack(0) = -4; rule(1, 4) = -4; rule(1, 7) = -1; rule(7, 4) = -1; target(0, 3) = -4; "
            + "target(0, 6) = -1; target(2, 3) = -1; edge(2, 0, 2) = -4; edge(2, 0, 5) = -1; edge(2, 4, 2) = -1");
        sentence = "BAD: an argument is out of range, or names something that does not exist.";
        on(sentence, "rule(7, 0) = -1; target(2, 0) = -1; step(7) = -1; go(2) = -1; drop(7) = -1; weigh(7, 0) = -1; "
            + "heads(2, 0) = -1; empty(2) = -1; edge(5, 0, 0) = -1; edge(0, 0, 5) = -1; dear(7) = -1; enter(0, 0, 0, 0, 0) = 7; "
            + "rule(7, 0) = 0; rule(8, 0) = -1; step(7) = 1; dear(7) = 9; weigh(7, 0) = -2; drop(7) = 7; rule(7, 0) = -1");
    }

    /** For each method the ranges of its arguments in the system at first, from each least to each greatest number. */
    private static void ranges() {
        String sentence = "BAD if an argument is out of range";
        range(sentence, "write", 32, 126);
        range(sentence, "rule", 0, 6, 0, 6);
        range(sentence, "target", 0, 1, 0, 5);
        range(sentence, "stack", -2, MAX);
        range(sentence, "push", 0, 3);
        range(sentence, "step", 0, 6);
        range(sentence, "go", 0, 1);
        range(sentence, "enter", 0, 1, 0, 3, 0, 1, 0, 20, 0, 9);
        range(sentence, "drop", 0, 6);
        range(sentence, "weigh", 0, 6, 0, 9);
        range(sentence, "mode", 0, 2);
        range(sentence, "run", -1, MAX);
        range(sentence, "heads", 0, 1, 0, 3);
        range(sentence, "empty", 0, 1);
        range(sentence, "edge", 0, 4, 0, 3, 0, 4);
        range(sentence, "automaton", 0, 3);
        range(sentence, "dear", 0, 6);
        range(sentence, "walk", 0, 9999, 1, 60, 0, 2);
        range(sentence, "count", 0, 6);
    }

    private static void range(String sentence, String name, int... bounds) {
        int size = bounds.length / 2;
        int[] args = new int[size];
        // Each bit picks the least or the greatest number of an argument.
        for (int corner = 0; corner < 1 << size; corner++) {
            for (int i = 0; i < size; i++) {
                args[i] = bounds[2 * i + (corner >> i & 1)];
            }
            String call = call(name, args);
            CHECK.holds(sentence + ": " + call + " is in range", Check.play(new CallTowers(), call) != CallTowers.BAD);
            for (int i = 0; i < size; i++) {
                int right = args[i];
                for (int wrong : new int[] {bounds[2 * i] - 1, bounds[2 * i + 1] + 1, MIN, MAX}) {
                    if (wrong < bounds[2 * i] || wrong > bounds[2 * i + 1]) {
                        args[i] = wrong;
                        call = call(name, args);
                        CHECK.same(sentence + ": " + call, Check.play(new CallTowers(), call), CallTowers.BAD);
                    }
                }
                args[i] = right;
            }
        }
    }

    private static String call(String name, int[] args) {
        StringBuilder call = new StringBuilder(name).append("(");
        for (int i = 0; i < args.length; i++) {
            call.append(i == 0 ? "" : ", ").append(args[i]);
        }
        return call.append(")").toString();
    }

    // ---- the promises

    private static void newObject() {
        on("1: an empty text, nothing to undo, and nothing saved", "count(6) = 0; wipe() = 0; count(4) = 0; undo() = -2; "
            + "count(5) = 0; back() = -2");
    }

    private static void writeAndWipe() {
        on("2: BAD if letter is out of range", "write(31) = -1; write(127) = -1; write(0) = -1; write(-1) = -1; write(32) = 1; "
            + "write(126) = 2; write(10) = -1; write(65568) = -1; count(6) = 2");
        CallTowers full = new CallTowers();
        for (int i = 1; i <= 200; i++) {
            CHECK.same("2: Returns the number of characters then", full.write(i % 2 == 0 ? 32 : 126), i);
        }
        CHECK.on("2: FULL if there are 200 characters", full, "write(65) = -3; write(65) = -3; count(6) = 200; wipe() = 200; "
            + "write(65) = 1");
        on("3: Returns how many characters it had", "wipe() = 0; write(65) = 1; wipe() = 1; wipe() = 0; count(6) = 0");
        // What stood behind the end of a shorter text is gone.
        on("3: Empties the text", "write(109) = 1; write(48) = 2; write(59) = 3; fault() = -4; wipe() = 3; fault() = -4; "
            + "write(109) = 1; fault() = 0; write(48) = 2; fault() = 0; write(59) = 3; fault() = -4");
        on("4: NONE if there is none", "fault() = -4; write(120) = 1; fault() = 0; fault() = 0; wipe() = 1; fault() = -4");
    }

    private static void lay() {
        CallTowers towers = new CallTowers();
        Check.type(towers, "n1;r0,a,0,,0;");
        CHECK.on("5: Nothing can be undone then, and nothing is saved. The text stays.", towers, "push(0) = 3; push(1) = 4; "
            + "keep() = 1; keep() = 2; count(4) = 2; lay() = 1; count(4) = 0; count(5) = 0; undo() = -2; back() = -2; "
            + "count(6) = 13; fault() = -4; lay() = 1; keep() = 1; keep() = 2; keep() = -3; push(0) = 1; undo() = 0");
        CallTowers anew = new CallTowers();
        Check.type(anew, "n3;r2,a,2,,0;t2,;c2,a;m2;");
        CHECK.on("5: Makes the text the system.", anew, "price() = 9; run(0) = 0; lay() = 1; price() = 0; run(-1) = 1; "
            + "run(0) = 0; run(1) = -4; edge(2, 0, 2) = 0; wipe() = 25");
        // Nothing is left of the system before, of which the text says nothing.
        Check.type(anew, "r0,b,1,,4;");
        CHECK.on("5: Makes the text the system.", anew, "lay() = 1; count(0) = 2; count(2) = 0; count(3) = 0; stack(-2) = 0; "
            + "stack(-1) = 0; price() = -4; run(-1) = -4; edge(0, 1, 1) = 4; automaton(0) = 4");
        CallTowers faulty = new CallTowers();
        Check.type(faulty, "n1;r0,a,0,,0;x");
        CHECK.on("5: NO if the text is not a system (nothing changes)", faulty, "price() = 9; push(0) = 3; push(1) = 4; "
            + "keep() = 1; lay() = -2; count(0) = 2; count(1) = 7; count(2) = 2; stack(-1) = 4; stack(0) = 1; count(4) = 2; "
            + "count(5) = 1; count(6) = 14; undo() = 1; stack(-1) = 3; undo() = 0; price() = 9; back() = 0; stack(-1) = 4");
        CallTowers ten = new CallTowers();
        Check.type(ten, String.join("", TEN));
        CHECK.on("5: Returns the number of rules", ten, "lay() = 10; drop(0) = 9; lay() = 10");
    }

    private static void properties() {
        on("6: for 4 and 5, NONE if W has no such letter", "rule(1, 3) = 0; rule(1, 4) = -4; rule(1, 5) = -4; rule(3, 3) = 1; "
            + "rule(3, 4) = 1; rule(3, 5) = -4; rule(0, 4) = 1; rule(0, 5) = 0; rule(5, 4) = 2; rule(5, 5) = 2");
        on("6: BAD if an argument is out of range", "rule(-1, 0) = -1; rule(7, 0) = -1; rule(0, -1) = -1; rule(0, 7) = -1; "
            + "rule(6, 6) = 4; drop(6) = 6; rule(6, 6) = -1");
        on("7: for 3 to 5, NONE if it has no such letter", "target(0, 3) = -4; target(0, 4) = -4; target(0, 5) = -4; "
            + "target(1, 3) = 2; target(1, 4) = 2; target(1, 5) = -4");
        on("7: BAD if an argument is out of range", "target(-1, 0) = -1; target(2, 0) = -1; target(0, -1) = -1; target(0, 6) = -1; "
            + "target(2, 6) = -1");
        on("8: NONE if there are not so many letters", "stack(1) = 0; stack(2) = -4; stack(2147483647) = -4; pop() = 0; "
            + "stack(0) = 0; stack(1) = -4; pop() = 0; stack(-1) = 0; stack(0) = -4; stack(-2) = 0");
        on("8: BAD if k is less than -2", "stack(-2) = 0; stack(-3) = -1; stack(-2147483648) = -1");
    }

    private static void pushAndPop() {
        on("9: Returns the number of letters then", "pop() = 0; pop() = 0; push(3) = 1; push(0) = 2; stack(0) = 0; stack(1) = 3");
        on("9: BAD if letter is out of range", "push(-1) = -1; push(4) = -1; stack(-1) = 2; count(4) = 0");
        on("9: FULL if there are 12 letters", fill(9) + "stack(-1) = 11; push(2) = 12; push(1) = -3; stack(0) = 2; "
            + "stack(-1) = 12; pop() = 2; push(1) = 12; push(1) = -3");
        on("10: NO if the stack is empty", "pop() = 0; pop() = 0; pop() = -2; pop() = -2; stack(-1) = 0; count(4) = 2; push(3) = 1; "
            + "pop() = 3; pop() = -2");
    }

    private static void step() {
        on("11: BAD if there is no such rule", "step(7) = -1; step(-1) = -1; drop(6) = 6; step(6) = -1; pop() = 0; pop() = 0; "
            + "step(6) = -1; count(4) = 3");
        on("11: NO if it is not a rule for the state and the top letter", "step(1) = -2; step(2) = -2; step(6) = -2; pop() = 0; "
            + "pop() = 0; step(0) = -2; step(6) = -2; count(4) = 2; stack(-1) = 0");
        with("11: FULL if there would be more than 12 letters", "n1;r0,a,0,ab,0;r0,a,0,a,0;r0,a,0,,0;c0,aaaaaa;", "push(0) = 7; "
            + "push(0) = 8; push(0) = 9; push(0) = 10; push(0) = 11; step(0) = 12; stack(0) = 0; stack(1) = 1; step(0) = -3; "
            + "stack(-1) = 12; count(4) = 6; step(1) = 12; step(2) = 11; stack(0) = 1");
        with("11: Returns the number of letters then", "n1;r0,a,0,,0;c0,a;", "step(0) = 0; stack(-1) = 0");
    }

    private static void go() {
        on("12: BAD if there is no such state", "go(-1) = -1; go(2) = -1; stack(-2) = 0; count(4) = 0");
        on("12: NO if this is the state already", "go(0) = -2; go(1) = 0; go(1) = -2; go(0) = 1; go(0) = -2; count(4) = 2");
        with("12: Returns the state before", "n3;r0,a,0,,0;c2,;", "go(2) = -2; go(0) = 2; go(1) = 0; go(2) = 1");
    }

    private static void enter() {
        on("13: 0 for the empty word, 1 + u for the word with the letter u", "enter(0, 0, 0, 0, 0) = 7; rule(7, 3) = 0; "
            + "rule(7, 4) = -4; enter(0, 0, 0, 1, 0) = 8; rule(8, 3) = 1; rule(8, 4) = 0; rule(8, 5) = -4; "
            + "enter(0, 0, 0, 4, 0) = 9; rule(9, 3) = 1; rule(9, 4) = 3; rule(9, 5) = -4");
        on("13: 5 + 4 * u + v for the word with the letters u and v", "enter(0, 0, 0, 5, 0) = 7; rule(7, 3) = 2; rule(7, 4) = 0; "
            + "rule(7, 5) = 0; enter(0, 0, 0, 20, 0) = 8; rule(8, 3) = 2; rule(8, 4) = 3; rule(8, 5) = 3; "
            + "enter(0, 0, 0, 8, 0) = 9; rule(9, 4) = 0; rule(9, 5) = 3");
        on("13: 5 + 4 * u + v for the word with the letters u and v", "enter(0, 0, 0, 9, 0) = 7; rule(7, 4) = 1; rule(7, 5) = 0; "
            + "enter(0, 0, 0, 16, 0) = 8; rule(8, 4) = 2; rule(8, 5) = 3; enter(0, 0, 0, 17, 0) = 9; rule(9, 4) = 3; rule(9, 5) = 0");
        on("13: BAD if an argument is out of range", "enter(-1, 0, 0, 0, 0) = -1; enter(2, 0, 0, 0, 0) = -1; "
            + "enter(0, -1, 0, 0, 0) = -1; enter(0, 4, 0, 0, 0) = -1; enter(0, 0, -1, 0, 0) = -1; enter(0, 0, 2, 0, 0) = -1; "
            + "enter(0, 0, 0, -1, 0) = -1; enter(0, 0, 0, 21, 0) = -1; enter(0, 0, 0, 0, -1) = -1; enter(0, 0, 0, 0, 10) = -1; "
            + "count(1) = 7; count(4) = 0; enter(1, 3, 1, 20, 9) = 7; rule(7, 0) = 1; rule(7, 1) = 3; rule(7, 2) = 1; "
            + "rule(7, 6) = 9");
        on("13: FULL if there are 10 rules", "enter(0, 0, 0, 0, 0) = 7; enter(0, 0, 0, 0, 0) = 8; enter(0, 0, 0, 0, 0) = 9; "
            + "enter(0, 0, 0, 0, 0) = -3; count(1) = 10; count(4) = 3; drop(4) = 9; enter(0, 0, 0, 0, 4) = 9; "
            + "enter(0, 0, 0, 0, 4) = -3; rule(9, 6) = 4");
    }

    private static void drop() {
        on("14: The rules behind it get numbers that are 1 less.", "drop(0) = 6; rule(0, 6) = 1; rule(5, 6) = 4; rule(6, 6) = -1; "
            + "drop(5) = 5; rule(4, 6) = 1; rule(5, 6) = -1; drop(2) = 4; rule(1, 6) = 3; rule(2, 6) = 5; rule(3, 6) = 1");
        with("14: The rules behind it get numbers that are 1 less.", String.join("", TEN), "drop(9) = 9; rule(8, 6) = 8; "
            + "undo() = 0; drop(0) = 9; rule(0, 6) = 1; rule(8, 6) = 9; rule(9, 6) = -1");
        on("14: BAD if there is no such rule", "drop(-1) = -1; drop(7) = -1; count(1) = 7; count(4) = 0");
        on("14: NO if it is the only one", "drop(6) = 6; drop(5) = 5; drop(4) = 4; drop(3) = 3; drop(2) = 2; drop(1) = 1; "
            + "drop(0) = -2; drop(1) = -1; count(1) = 1; count(4) = 6; enter(0, 0, 0, 0, 0) = 1; drop(0) = 1; drop(0) = -2");
    }

    private static void weigh() {
        on("15: BAD if an argument is out of range", "weigh(-1, 0) = -1; weigh(7, 0) = -1; weigh(0, -1) = -1; weigh(0, 10) = -1; "
            + "rule(0, 6) = 2; count(4) = 0");
        on("15: NO if this is the cost already", "weigh(0, 2) = -2; weigh(3, 0) = -2; count(4) = 0; weigh(0, 9) = 2; "
            + "weigh(0, 9) = -2; weigh(0, 0) = 9; weigh(0, 0) = -2; count(4) = 2");
        // With mode 1 the cost does not count for the price, but it is set all the same.
        on("15: Sets the cost of a rule", "mode(1) = 0; weigh(0, 9) = 2; rule(0, 6) = 9; price() = 4; mode(0) = 1; price() = 16");
    }

    private static void mode() {
        on("16: BAD if m is out of range", "mode(-1) = -1; mode(3) = -1; count(3) = 0; count(4) = 0");
        on("16: NO if this is the mode already", "mode(0) = -2; mode(2) = 0; mode(2) = -2; mode(1) = 2; mode(1) = -2; mode(0) = 1; "
            + "count(4) = 3");
    }

    private static void undo() {
        on("17: NO if none can", "undo() = -2; count(4) = 0; push(0) = 3; undo() = 0; undo() = -2; stack(-1) = 2; keep() = 1; "
            + "undo() = -2; back() = 0; undo() = -2");
        on("17: Returns how many can still be undone", "push(0) = 3; push(0) = 4; undo() = 1; push(1) = 4; undo() = 1; undo() = 0");
        // 20 changes, then 8 undone, some new ones, and all undone again: the places for changes are used round and round.
        CallTowers towers = new CallTowers();
        for (int i = 3; i <= 22; i++) {
            CHECK.same("17: the latest 8: weigh(0, " + i % 10 + ")", towers.weigh(0, i % 10), (i - 1) % 10);
        }
        StringBuilder wrap = new StringBuilder("count(4) = 8; ");
        for (int left = 7; left >= 3; left--) {
            wrap.append("undo() = ").append(left).append("; ");
        }
        for (int more = 0; more < 11; more++) {
            wrap.append("go(").append(1 - more % 2).append(") = ").append(more % 2).append("; ");
        }
        wrap.append("count(4) = 8; stack(-2) = 1; ");
        for (int left = 7; left >= 0; left--) {
            wrap.append("undo() = ").append(left).append("; stack(-2) = ").append((left + 1) % 2).append("; ");
        }
        CHECK.on("17: the latest 8", towers, wrap + "undo() = -2; stack(-2) = 1; rule(0, 6) = 7");
    }

    private static void price() {
        on("18: NONE if it has none", "push(3) = 3; price() = -4; pop() = 3; price() = 9; pop() = 0; pop() = 0; price() = -4");
        with("18: Returns the price", "n1;r0,a,0,,9;t0,;c0,aaaaaa;", "push(0) = 7; push(0) = 8; push(0) = 9; push(0) = 10; "
            + "push(0) = 11; push(0) = 12; price() = 108; weigh(0, 0) = 9; price() = 0");
    }

    private static void run() {
        on("19: NONE if there is no run, or not so many steps", "run(3) = 2; run(4) = -4; run(2147483647) = -4; push(3) = 3; "
            + "run(-1) = -4; run(0) = -4; run(2147483647) = -4; pop() = 3; run(4) = -4; run(3) = 2");
        with("19: NONE if there is no run, or not so many steps", "n1;r0,a,0,,0;t0,;c0,;", "run(-1) = 0; run(0) = -4; "
            + "push(0) = 1; run(-1) = 1; run(0) = 0; run(1) = -4");
        on("19: otherwise the index of a step", "run(3) = 2; run(0) = 0; run(2) = 2; run(1) = 1; run(1) = 1; run(0) = 0; "
            + "run(3) = 2; run(-1) = 4; step(0) = 3; run(-1) = 3; run(0) = 1; run(2) = 2; run(3) = -4; undo() = 0; run(0) = 0; "
            + "run(-1) = 4");
        on("19: BAD if k is less than -1", "run(-2) = -1; run(-2147483648) = -1; push(3) = 3; run(-2) = -1; run(-1) = -4");
    }

    private static void headsAndEmpty() {
        // No step can be made: only the present configuration counts.
        with("20: the present configuration, or one that can be reached from it by steps", "n2;r1,b,0,,0;c0,abab;",
            "heads(0, 0) = 1; heads(0, 1) = 0; heads(1, 1) = 0; go(1) = 0; heads(1, 0) = 1; heads(0, 0) = 0; pop() = 0; "
            + "heads(1, 1) = 1; heads(0, 0) = 1; heads(0, 1) = 0");
        with("20: the present configuration has an empty stack", "n2;r0,a,1,,0;", "heads(0, 0) = 0; heads(0, 3) = 0; "
            + "heads(1, 0) = 0; heads(1, 3) = 0");
        on("20: BAD if an argument is out of range", "heads(-1, 0) = -1; heads(2, 0) = -1; heads(0, -1) = -1; heads(0, 4) = -1");
        with("21: the present configuration, or one that can be reached from it by steps", "n2;r0,a,1,,0;c0,;", "empty(0) = 1; "
            + "empty(1) = 0; push(0) = 1; empty(0) = 0; empty(1) = 1; push(0) = 2; empty(0) = 0; empty(1) = 0");
        // From a full stack every letter must go.
        with("21: a full stack", "n2;r0,a,0,,0;r0,b,1,,0;c0,aaaaaa;", "push(0) = 7; push(0) = 8; push(0) = 9; push(0) = 10; "
            + "push(0) = 11; push(0) = 12; empty(0) = 1; empty(1) = 0; stuck() = 1; pop() = 0; push(1) = 12; empty(0) = 0; "
            + "empty(1) = 0; stuck() = 1");
        on("21: BAD if there is no such state", "empty(-1) = -1; empty(2) = -1");
        // A rule with two letters fits though there are 12: the limit is one of the changes alone.
        with("20: a full stack grows on", "n1;r0,a,0,bc,0;c0,aaaaaa;", "push(0) = 7; push(0) = 8; push(0) = 9; push(0) = 10; "
            + "push(0) = 11; push(0) = 12; heads(0, 1) = 1; heads(0, 2) = 0; stuck() = 1; step(0) = -3");
    }

    private static void stuck() {
        with("22: 0 if it is never stuck", "n1;r0,a,0,a,0;c0,a;", "stuck() = 0; push(1) = 2; stuck() = 1; pop() = 1; pop() = 0; "
            + "stuck() = 1");
        with("22: an empty stack alone", "n3;r0,a,0,,0;", "stuck() = 1; go(2) = 0; stuck() = 1; empty(2) = 1");
        with("22: the sum of both numbers", "n3;r0,a,1,,0;r0,a,2,,0;r0,a,0,,0;c0,ab;", "stuck() = 3; pop() = 0; stuck() = 1; "
            + "pop() = 1; push(0) = 1; stuck() = 3; push(0) = 2; stuck() = 5");
    }

    private static void edge() {
        on("23: BAD if an argument is out of range", "edge(-1, 0, 0) = -1; edge(5, 0, 0) = -1; edge(0, -1, 0) = -1; "
            + "edge(0, 4, 0) = -1; edge(0, 0, -1) = -1; edge(0, 0, 5) = -1; edge(4, 3, 4) = -4");
        on("23: NONE if there is no such edge", "edge(2, 0, 0) = -4; edge(4, 0, 3) = -4; edge(0, 3, 0) = -4; edge(1, 2, 1) = -4; "
            + "edge(4, 2, 3) = 0");
        on("23: after all rounds", "edge(0, 0, 1) = 6; drop(1) = 6; edge(0, 0, 1) = -4; undo() = 0; edge(0, 0, 1) = 6");
    }

    private static void automaton() {
        on("24: BAD if what is out of range", "automaton(-1) = -1; automaton(4) = -1; automaton(0) = 5; automaton(3) = 3");
        // The second round changes a weight and adds no edge.
        with("24: the number of rounds that changed something (also only a weight)", "n1;r0,a,0,,9;r0,a,0,b,0;r0,b,0,,0;",
            "automaton(3) = 2; automaton(2) = 6; edge(0, 0, 0) = 0; weigh(0, 0) = 9; automaton(3) = 1; drop(1) = 2; "
            + "automaton(3) = 1; automaton(2) = 6");
    }

    private static void needed() {
        on("25: 0 if there is no run at all", "needed() = 3; push(3) = 3; needed() = 0; pop() = 3; needed() = 3");
        with("25: none is needed", "n1;r0,a,0,,0;r0,a,0,,0;t0,;c0,a;", "needed() = 0; price() = 0; drop(0) = 1; needed() = 1; "
            + "drop(0) = -2; pop() = 0; needed() = 0; price() = 0");
        with("25: bit k for rule k", "n1;r0,a,0,b,0;r0,d,0,d,0;r0,b,0,c,0;r0,d,0,d,0;r0,d,0,d,0;r0,d,0,d,0;r0,d,0,d,0;r0,d,0,d,0;"
            + "r0,d,0,d,0;r0,c,0,,0;t0,;c0,a;", "needed() = 517; mode(1) = 0; needed() = 517; mode(2) = 1; needed() = 517");
    }

    private static void dear() {
        with("26: the greatest cost from 0 to 9 with which the price would be what it is now", "n1;r0,a,0,,0;r0,b,0,,9;r0,c,0,,5;"
            + "t0,;c0,a;", "dear(0) = 0; dear(1) = 9; dear(2) = 9; push(1) = 2; dear(1) = 9; dear(0) = 0; mode(2) = 0; "
            + "dear(0) = 9; weigh(1, 8) = 9; dear(0) = 8; dear(1) = 8; mode(1) = 2; dear(0) = 9; dear(1) = 9");
        on("26: NONE if the configuration has no price", "push(3) = 3; dear(0) = -4; dear(6) = -4; pop() = 3; dear(0) = 2");
        on("26: BAD if there is no such rule", "dear(-1) = -1; dear(7) = -1; push(3) = 3; dear(7) = -1; dear(-1) = -1; "
            + "rule(0, 6) = 2; count(4) = 1");
        with("26: a configuration that is a target", "n1;r0,a,0,,0;t0,;", "dear(0) = 9; price() = 0");
    }

    private static void walk() {
        on("27: BAD if an argument is out of range", "walk(-1, 1, 0) = -1; walk(10000, 1, 0) = -1; walk(0, 0, 0) = -1; "
            + "walk(0, 61, 0) = -1; walk(0, 1, -1) = -1; walk(0, 1, 3) = -1; walk(9999, 60, 2) = 1");
        with("27: at most n steps", "n1;r0,a,0,a,0;c0,a;", "walk(0, 1, 0) = 1; walk(9999, 1, 0) = 1; walk(0, 59, 0) = 59; "
            + "walk(9999, 60, 0) = 60");
        on("27: nothing is changed", "walk(0, 60, 0) = 7; stack(-1) = 2; stack(-2) = 0; count(4) = 0; count(5) = 0; count(1) = 7");
        with("27: The walk is over if there are no such rules", "n2;r0,a,1,,0;c0,aa;", "walk(0, 60, 0) = 1; walk(0, 60, 1) = 1; "
            + "walk(0, 60, 2) = 1; go(1) = 0; walk(0, 60, 0) = 0; walk(0, 60, 1) = 2; walk(0, 60, 2) = 1; go(0) = 1; pop() = 0; "
            + "walk(0, 60, 0) = 1; walk(0, 60, 1) = 0; walk(0, 60, 2) = 1; pop() = 0; walk(0, 60, 0) = 0; walk(0, 60, 1) = 0; "
            + "walk(0, 60, 2) = 0");
        with("27: or there would be more than 12 letters by this rule", "n2;r0,a,0,aa,0;r1,a,1,,0;r1,b,0,b,0;c0,aaaaaa;",
            "walk(7, 60, 0) = 6; walk(7, 60, 1) = 12; push(0) = 7; push(0) = 8; push(0) = 9; push(0) = 10; push(0) = 11; "
            + "walk(7, 60, 0) = 1; walk(7, 60, 1) = 12; push(0) = 12; walk(7, 60, 0) = 0; walk(7, 60, 1) = 12; go(1) = 0; "
            + "walk(7, 60, 0) = 12; walk(7, 60, 1) = 0; pop() = 0; push(1) = 12; walk(7, 60, 0) = 1; walk(7, 60, 1) = 12; "
            + "walk(7, 60, 2) = 0");
    }

    /** After n steps the state is d % 3 for the last step; the numbers are as large as they get. */
    private static void walkFormula() {
        StringBuilder text = new StringBuilder("n3;");
        for (int p = 0; p < 3; p++) {
            for (int q = 0; q < 3; q++) {
                text.append("r").append(p).append(",a,").append(q).append(",a,0;");
            }
        }
        for (int z : new int[] {0, 1, 271, 4999, 9998, 9999}) {
            StringBuilder calls = new StringBuilder();
            for (int n = 1; n <= 60; n++) {
                BigInteger x = BigInteger.valueOf(7919).multiply(BigInteger.valueOf(z))
                    .add(BigInteger.valueOf(6151).multiply(BigInteger.valueOf(n - 1))).add(BigInteger.ONE);
                BigInteger d = x.multiply(x).mod(BigInteger.valueOf(65521)).divide(BigInteger.valueOf(4));
                calls.append("walk(").append(z).append(", ").append(n).append(", 2) = ").append(d.intValue() % 3).append("; ");
            }
            with("27: d = ((x * x) % 65521) / 4 (long arithmetic, integer division)", text + "c0,a;", calls + "stack(-2) = 0");
        }
    }

    private static void saved() {
        on("28: FULL if 2 are saved", "keep() = 1; keep() = 2; keep() = -3; keep() = -3; count(5) = 2; back() = 1; keep() = 2; "
            + "keep() = -3");
        on("28: Saves everything but the text", "write(110) = 1; keep() = 1; write(50) = 2; back() = 0; count(6) = 2; keep() = 1; "
            + "wipe() = 2; back() = 0; count(6) = 0");
        on("29: Restores what was saved last and is still there; it is not saved any more", "keep() = 1; push(1) = 3; keep() = 2; "
            + "push(2) = 4; back() = 1; stack(-1) = 3; stack(0) = 1; push(3) = 4; keep() = 2; pop() = 3; back() = 1; stack(0) = 3; "
            + "back() = 0; stack(-1) = 2; back() = -2");
        on("29: Nothing can be undone then", "push(0) = 3; keep() = 1; push(0) = 4; count(4) = 2; back() = 0; count(4) = 0; "
            + "undo() = -2; stack(-1) = 3; pop() = 0; undo() = 0; stack(-1) = 3; undo() = -2");
        on("29: Restores what was saved", "keep() = 1; weigh(0, 9) = 2; price() = 16; run(-1) = 4; drop(6) = 6; pop() = 0; "
            + "run(-1) = 3; back() = 0; price() = 9; run(-1) = 4; edge(0, 0, 1) = 6; edge(0, 2, 1) = 4");
        on("29: NO if there is none", "back() = -2; push(0) = 3; back() = -2; count(4) = 1; undo() = 0");
    }

    private static void count() {
        on("30: BAD if what is out of range", "count(-1) = -1; count(7) = -1; count(6) = 0; count(0) = 2");
        on("30: changes that can be undone", "count(4) = 0; go(1) = 0; go(0) = 1; go(1) = 0; go(0) = 1; go(1) = 0; go(0) = 1; "
            + "go(1) = 0; count(4) = 7; go(0) = 1; count(4) = 8; go(1) = 0; count(4) = 8; undo() = 7; count(4) = 7");
    }
}
