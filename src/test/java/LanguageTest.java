import java.io.IOException;
import java.lang.reflect.Constructor;
import java.lang.reflect.Field;
import java.lang.reflect.Method;
import java.lang.reflect.Modifier;
import java.nio.file.Files;
import java.nio.file.Path;
import java.util.List;
import java.util.Set;
import java.util.TreeSet;
import java.util.regex.Matcher;
import java.util.regex.Pattern;

/** What can be seen from outside of the rules of LANGUAGE.md: the face, and words that must not stand in the source. */
final class LanguageTest {
    private static final Check CHECK = new Check();
    private static final Path SOURCE = Path.of("src/main/java/CallTowers.java");
    private static final Set<String> FACE = Set.of("write/1", "wipe/0", "fault/0", "lay/0", "rule/2", "target/2", "stack/1",
        "push/1", "pop/0", "step/1", "go/1", "enter/5", "drop/1", "weigh/2", "mode/1", "undo/0", "price/0", "run/1",
        "heads/2", "empty/1", "stuck/0", "edge/3", "automaton/1", "needed/0", "dear/1", "walk/3", "keep/0", "back/0",
        "count/1");

    public static void main(String[] args) throws IOException {
        face();
        classesInside();
        source(Files.readString(SOURCE));
        CHECK.end("LanguageTest");
    }

    private static void face() {
        Class<?> main = CallTowers.class;
        CHECK.holds("1: public and final", Modifier.isPublic(main.getModifiers()) && Modifier.isFinal(main.getModifiers()));
        Set<String> found = new TreeSet<>();
        for (Method method : main.getDeclaredMethods()) {
            if (Modifier.isPublic(method.getModifiers())) {
                found.add(method.getName() + "/" + method.getParameterCount());
                CHECK.holds("1: int " + method.getName(), method.getReturnType() == int.class);
            } else {
                CHECK.holds("1: private " + method.getName(), Modifier.isPrivate(method.getModifiers())
                    && !isTaken(method.getName()));
            }
        }
        CHECK.holds("1: the face " + found, found.equals(FACE));
        Constructor<?>[] makers = main.getDeclaredConstructors();
        CHECK.holds("1: one public constructor", makers.length == 1 && makers[0].getParameterCount() == 0
            && Modifier.isPublic(makers[0].getModifiers()));
        List<String> constants = List.of("BAD", "NO", "FULL", "NONE");
        for (Field field : main.getDeclaredFields()) {
            boolean open = constants.contains(field.getName());
            CHECK.holds("1: field " + field.getName(), open ? Modifier.isPublic(field.getModifiers())
                : Modifier.isPrivate(field.getModifiers()));
            CHECK.holds("5: static " + field.getName(), !Modifier.isStatic(field.getModifiers())
                || Modifier.isFinal(field.getModifiers()));
        }
    }

    private static void classesInside() {
        CHECK.holds("11: some twelve classes", CallTowers.class.getDeclaredClasses().length <= 11);
        fieldsAndParameters(CallTowers.class);
        for (Class<?> inside : CallTowers.class.getDeclaredClasses()) {
            CHECK.holds("2: static " + inside.getName(), Modifier.isStatic(inside.getModifiers())
                && !Modifier.isPublic(inside.getModifiers()) && !Modifier.isProtected(inside.getModifiers()));
            fieldsAndParameters(inside);
            for (Method method : inside.getDeclaredMethods()) {
                CHECK.holds("1: no name of the face: " + inside.getName() + "." + method.getName(),
                    !isTaken(method.getName()));
            }
        }
    }

    private static boolean isTaken(String name) {
        return FACE.stream().anyMatch(taken -> taken.startsWith(name + "/"));
    }

    private static void fieldsAndParameters(Class<?> kind) {
        int fields = 0;
        for (Field field : kind.getDeclaredFields()) {
            fields += Modifier.isStatic(field.getModifiers()) ? 0 : 1;
        }
        CHECK.holds("11: some twenty fields of " + kind.getName(), fields <= 20);
        for (Method method : kind.getDeclaredMethods()) {
            CHECK.holds("11: seven parameters of " + method.getName(), method.getParameterCount() <= 7);
        }
    }

    private static void source(String whole) {
        CHECK.holds("4: signs 1 to 127", whole.chars().allMatch(c -> c > 0 && c < 128));
        String code = whole.replaceAll("(?s)/\\*.*?\\*/", " ").replaceAll("//[^\n]*", " ")
            .replaceAll("\"[^\"\n]*\"", "\"\"").replaceAll("'[^'\n]*'", "' '");
        for (String word : List.of("throw", "throws", "try", "catch", "finally", "synchronized", "assert", "package", "import",
                "instanceof", "protected", "volatile", "transient", "native", "var", "yield", "record", "sealed", "Exception",
                "Object", "equals", "hashCode", "toString", "Random", "Thread", "double", "float", "while")) {
            CHECK.holds("no word " + word, !Pattern.compile("\\b" + word + "\\b").matcher(code).find());
        }
        for (String sign : List.of("->", "::", "@", "\"\" +", "+ \"\"")) {
            CHECK.holds("no sign " + sign, !code.contains(sign));
        }
        Matcher library = Pattern.compile("\\b(System|Arrays|Integer|Long|Math|String)\\.(\\w+)").matcher(code);
        Set<String> allowed = Set.of("System.arraycopy", "Integer.bitCount", "Math.min", "Math.max");
        while (library.find()) {
            CHECK.holds("4: " + library.group(), allowed.contains(library.group()));
        }
        int length = 0;
        for (String line : whole.split("\n")) {
            length = line.matches("    (    )?\\}") ? 0 : length + 1;
            CHECK.holds("11: short methods, up to " + line, length <= 60 || line.isBlank());
        }
    }
}
