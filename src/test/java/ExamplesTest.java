/** The document's four examples, each on a new object. */
final class ExamplesTest {
    public static void main(String[] args) {
        Check check = new Check();
        check.onNew("example 1", "price() = 9; run(-1) = 4; run(0) = 0; run(9) = -4; automaton(0) = 5; "
            + "automaton(1) = 6; automaton(3) = 3; edge(0, 1, 1) = 1; heads(1, 0) = 1; empty(0) = 0; stuck() = 2; "
            + "needed() = 3; dear(0) = 2; step(0) = 3; step(2) = -2; stack(0) = 1");
        check.onNew("example 2", "write(114) = 1; write(48) = 2; write(44) = 3; write(97) = 4; write(44) = 5; "
            + "write(48) = 6; write(44) = 7; write(44) = 8; write(51) = 9; write(59) = 10; write(116) = 11; "
            + "write(48) = 12; write(44) = 13; write(59) = 14; lay() = 1; price() = 0");
        check.onNew("example 3", "push(0) = 3; push(3) = 4; price() = -4; pop() = 3; mode(2) = 0; price() = 3; "
            + "mode(2) = -2; drop(6) = 6; price() = 3; undo() = 4; enter(0, 0, 1, 5, 9) = 7; rule(7, 5) = 0; "
            + "rule(7, 4) = 0; weigh(7, 9) = -2; go(1) = 0; walk(3, 9, 0) = 4");
        check.onNew("example 4", "write(110) = 1; write(49) = 2; write(59) = 3; write(116) = 4; write(49) = 5; "
            + "write(44) = 6; write(59) = 7; fault() = 3; lay() = -2; wipe() = 7; keep() = 1; pop() = 0; back() = 0; "
            + "undo() = -2; count(4) = 0; enter(0, 0, 0, 21, 0) = -1");
        check.end("ExamplesTest");
    }
}
