import java.io.IOException;
import java.lang.reflect.Constructor;
import java.lang.reflect.Field;
import java.lang.reflect.Method;
import java.lang.reflect.Modifier;
import java.nio.file.Files;
import java.nio.file.Path;
import java.util.Arrays;
import java.util.Set;
import java.util.TreeSet;
import java.util.regex.Matcher;
import java.util.regex.Pattern;

/** The class has the document's face and nothing beside it, and keeps to what can be seen of the language's rules. */
public final class FaceTest {
    private static final String[] FACE = {
        "int node()", "int arc(int,int)", "boolean drop()", "int least()", "int even(int)", "int colour(int)",
        "long ways(long)", "long coefficient(int)", "boolean list(int,int)", "int lists()", "long listed()",
        "int why()", "int arcs()", "int shade(int)", "int clique()", "int apart()", "int chordal()", "int taken(int)",
        "int left()", "int greedy(int)", "int tint(int)", "boolean put(int,int)", "int tried(int)", "int faults()",
        "int turn(int,int)", "int told(int)", "void clear()",
    };
    private static final String[] RULED_OUT = {
        "->", "::", "Exact(", "catch", "finally", "synchronized", "assert ", "hashCode", "toString", "System.out",
        "nanoTime", "currentTimeMillis", "Random", "static {", "package ",
    };

    private final Check check = new Check();

    public static void main(String[] args) throws IOException {
        FaceTest test = new FaceTest();
        test.looksAtFace();
        test.looksAtNestedClasses();
        test.looksAtSource(Files.readString(Path.of("src/main/java/ColourSearch.java")));
        test.check.end();
    }

    private static String told(Method method) {
        StringBuilder text = new StringBuilder(method.getReturnType().getName());
        text.append(' ').append(method.getName()).append('(');
        String comma = "";
        for (Class<?> type : method.getParameterTypes()) {
            text.append(comma).append(type.getName());
            comma = ",";
        }
        return text.append(')').toString();
    }

    private void looksAtFace() {
        check.at("the face");
        Set<String> due = new TreeSet<>(Arrays.asList(FACE));
        Set<String> open = new TreeSet<>();
        Set<String> names = new TreeSet<>();
        for (Method method : ColourSearch.class.getDeclaredMethods()) {
            if (!Modifier.isPrivate(method.getModifiers())) {
                open.add(told(method));
                check.same(method + " public", Modifier.isPublic(method.getModifiers()), true);
            }
            check.same(method.getName() + " stands twice", names.add(method.getName()), true);
        }
        System.out.println("face: " + open);
        check.same("the methods are the document's", open.equals(due), true);
        check.same("final", Modifier.isFinal(ColourSearch.class.getModifiers()), true);
        for (Constructor<?> made : ColourSearch.class.getDeclaredConstructors()) {
            check.same("parameters of the constructor", made.getParameterCount(), 0);
        }
        for (Field field : ColourSearch.class.getDeclaredFields()) {
            boolean hidden = Modifier.isPrivate(field.getModifiers());
            check.same(field.getName() + " hidden", hidden, !field.getName().equals("NONE"));
            boolean fixed = Modifier.isFinal(field.getModifiers());
            check.same(field.getName() + " final", fixed || !Modifier.isStatic(field.getModifiers()), true);
        }
    }

    private void looksAtNestedClasses() {
        check.at("the classes inside");
        Class<?>[] inside = ColourSearch.class.getDeclaredClasses();
        check.same("at most twelve", inside.length <= 12, true);
        for (Class<?> one : inside) {
            check.same(one + " static", Modifier.isStatic(one.getModifiers()), true);
            check.same(one + " has few fields", one.getDeclaredFields().length <= 20, true);
            for (Method method : one.getDeclaredMethods()) {
                check.same(method + " parameters", method.getParameterCount() <= 7, true);
                for (String line : FACE) {
                    String name = line.substring(line.indexOf(' ') + 1, line.indexOf('('));
                    check.same(method + " bears a public name", method.getName().equals(name), false);
                }
            }
        }
    }

    private void looksAtSource(String source) {
        check.at("the source");
        for (String word : RULED_OUT) {
            check.same("has " + word, source.contains(word), false);
        }
        Matcher imports = Pattern.compile("(?m)^import (.*);").matcher(source);
        while (imports.find()) {
            check.same("import " + imports.group(1), imports.group(1).equals("java.util.Arrays"), true);
        }
        Matcher thrown = Pattern.compile("throw [^;]*;").matcher(source);
        int count = 0;
        while (thrown.find()) {
            count++;
        }
        check.same("throw statements", count, 1);
        for (char letter : source.toCharArray()) {
            if (letter > 126) {
                check.same("a letter beyond the plain ones", letter, 0);
            }
        }
    }
}
