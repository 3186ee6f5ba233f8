import java.lang.reflect.InvocationTargetException;
import java.lang.reflect.Method;

/** Counts what holds and what does not, and plays runs of calls written as the document writes them. */
final class Check {
    private int passed;
    private int failed;

    /** Compares an answer; only what is wrong is printed. */
    void same(String what, long got, long want) {
        if (got == want) {
            passed++;
        } else {
            failed++;
            System.out.println(what + " answered " + got + ", due is " + want);
        }
    }

    void holds(String what, boolean truth) {
        same(what, truth ? 1 : 0, 1);
    }

    /** Plays calls such as "push(0) = 3; price() = -4" on a new object; returns the object. */
    CallTowers onNew(String name, String calls) {
        return on(name, new CallTowers(), calls);
    }

    /** Plays calls on a new object on which the text has been laid. */
    CallTowers onText(String name, String text, String calls) {
        CallTowers towers = new CallTowers();
        type(towers, text);
        holds(name + ": the text " + text + " is a system", towers.lay() > 0);
        return on(name, towers, calls);
    }

    CallTowers on(String name, CallTowers towers, String calls) {
        for (String piece : calls.split(";")) {
            String[] sides = piece.trim().split(" = ");
            same(name + ": " + sides[0], play(towers, sides[0]), Long.parseLong(sides[1].trim()));
        }
        return towers;
    }

    static void type(CallTowers towers, String text) {
        for (int i = 0; i < text.length(); i++) {
            towers.write(text.charAt(i));
        }
    }

    /** Makes a call such as "push(0)" and returns its answer. */
    static int play(CallTowers towers, String call) {
        int open = call.indexOf('(');
        String inside = call.substring(open + 1, call.length() - 1).trim();
        String[] words = inside.isEmpty() ? new String[0] : inside.split(",");
        Class<?>[] kinds = new Class<?>[words.length];
        Object[] values = new Object[words.length];
        for (int i = 0; i < words.length; i++) {
            kinds[i] = int.class;
            values[i] = Integer.parseInt(words[i].trim());
        }
        try {
            Method method = CallTowers.class.getMethod(call.substring(0, open), kinds);
            return (Integer) method.invoke(towers, values);
        } catch (NoSuchMethodException | IllegalAccessException | InvocationTargetException e) {
            throw new IllegalStateException(call, e);
        }
    }

    /** Ends the test with its counts. */
    void end(String name) {
        System.out.println(name + ": " + passed + " right, " + failed + " wrong");
        if (failed > 0 || passed == 0) {
            System.exit(1);
        }
    }
}
