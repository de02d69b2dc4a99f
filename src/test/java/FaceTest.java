import java.io.IOException;
import java.lang.reflect.Constructor;
import java.lang.reflect.Field;
import java.lang.reflect.Method;
import java.lang.reflect.Modifier;
import java.nio.file.Files;
import java.nio.file.Path;
import java.util.List;
import java.util.Map;
import java.util.Set;
import java.util.TreeMap;
import java.util.TreeSet;
import java.util.regex.Pattern;

/** The document's public face, and those rules of LANGUAGE.md that can be seen from outside. */
public final class FaceTest {
    private static final Map<String, Integer> PARAMETERS = new TreeMap<>(Map.ofEntries(
            Map.entry("plain", 1), Map.entry("length", 1), Map.entry("code", 2),
            Map.entry("descents", 1), Map.entry("inverse", 1), Map.entry("after", 2),
            Map.entry("ofCode", 4), Map.entry("below", 2), Map.entry("words", 1),
            Map.entry("number", 5), Map.entry("terms", 1), Map.entry("value", 5),
            Map.entry("wipe", 0), Map.entry("add", 2), Map.entry("multiply", 1),
            Map.entry("difference", 1), Map.entry("sheet", 4), Map.entry("part", 1),
            Map.entry("times", 1), Map.entry("makes", 1), Map.entry("dream", 2),
            Map.entry("ladder", 2), Map.entry("rise", 3), Map.entry("step", 2),
            Map.entry("shape", 2), Map.entry("avoids", 2)));
    private static final Set<String> ANSWER_LONG = Set.of("value", "sheet", "times");
    private static final List<String> RULED_OUT = List.of("throw", "throws", "try", "catch",
            "finally", "synchronized", "assert", "hashCode", "System.out", "Random", "Thread",
            "->", "::", "Exact");

    private static final Check CHECK = new Check("FaceTest");

    public static void main(String[] args) throws IOException {
        Class<?> face = SchubertDesk.class;
        CHECK.holds("public final", face.getModifiers() == (Modifier.PUBLIC | Modifier.FINAL));
        constants();
        constructors(face);
        methods(face);
        inside(face);
        source();
        CHECK.end();
    }

    private static void constants() {
        CHECK.due("OUTSIDE", SchubertDesk.OUTSIDE, -2);
        CHECK.due("STATE", SchubertDesk.STATE, -3);
        CHECK.due("OVER", SchubertDesk.OVER, -5);
        CHECK.due("NONE", SchubertDesk.NONE, -9);
        CHECK.due("LOST", SchubertDesk.LOST, Long.MIN_VALUE);
        Set<String> seen = new TreeSet<>();
        for (Field field : SchubertDesk.class.getDeclaredFields()) {
            if (Modifier.isPrivate(field.getModifiers())) {
                continue;
            }
            seen.add(field.getName() + " " + field.getType());
            CHECK.due(field.getName(), field.getModifiers(),
                    Modifier.PUBLIC | Modifier.STATIC | Modifier.FINAL);
        }
        CHECK.holds("constants " + seen, seen.equals(
                Set.of("OUTSIDE int", "STATE int", "OVER int", "NONE int", "LOST long")));
    }

    private static void constructors(Class<?> face) {
        Constructor<?>[] all = face.getDeclaredConstructors();
        CHECK.due("constructors", all.length, 1);
        CHECK.due("constructor's parameters", all[0].getParameterCount(), 0);
        CHECK.due("constructor public", all[0].getModifiers(), Modifier.PUBLIC);
    }

    private static void methods(Class<?> face) {
        Map<String, Integer> seen = new TreeMap<>();
        for (Method method : face.getDeclaredMethods()) {
            String name = method.getName();
            if (Modifier.isPrivate(method.getModifiers())) {
                CHECK.holds("private " + name, !PARAMETERS.containsKey(name));
                continue;
            }
            CHECK.due(name + " public", method.getModifiers(), Modifier.PUBLIC);
            seen.put(name, method.getParameterCount());
            Class<?> due = ANSWER_LONG.contains(name) ? long.class : int.class;
            CHECK.holds(name + " answers " + due, method.getReturnType() == due);
            for (Class<?> type : method.getParameterTypes()) {
                CHECK.holds(name + " takes ints", type == int.class);
            }
        }
        CHECK.holds("methods " + seen, seen.equals(PARAMETERS));
    }

    private static void inside(Class<?> face) {
        CHECK.holds("at most twelve classes", face.getDeclaredClasses().length < 12);
        for (Class<?> own : face.getDeclaredClasses()) {
            int modifiers = own.getModifiers();
            CHECK.holds(own + " static", Modifier.isStatic(modifiers));
            CHECK.holds(own + " not public", !Modifier.isPublic(modifiers));
            for (Method method : own.getDeclaredMethods()) {
                String name = method.getName();
                CHECK.holds(own + "." + name, !PARAMETERS.containsKey(name));
            }
        }
    }

    private static void source() throws IOException {
        String text = Files.readString(Path.of("src/main/java/SchubertDesk.java"));
        String code = text.replaceAll("(?s)/\\*.*?\\*/", "").replaceAll("//[^\n]*", "");
        for (String word : RULED_OUT) {
            boolean isName = Character.isLetter(word.charAt(0)) && !word.equals("Exact");
            String sought = isName ? "\\b" + Pattern.quote(word) + "\\b" : Pattern.quote(word);
            CHECK.holds("no " + word, !Pattern.compile(sought).matcher(code).find());
        }
        madeWithTheObject(code);
        CHECK.holds("no package", !code.contains("package "));
        CHECK.holds("imports", !code.replace("import java.util.Arrays;", "").contains("import "));
    }

    /** All calls of a run share one room: what is made is made with the object, and none by a call. */
    private static void madeWithTheObject(String code) {
        int inConstructors = 0;
        for (String line : code.split("\n")) {
            if (Pattern.compile("\\bnew\\b").matcher(line).find() && !line.matches(".*\\bfinal .* = new .*;")) {
                inConstructors++;
                CHECK.holds("made in a constructor: " + line.trim(), line.trim().startsWith("items = new int["));
            }
        }
        CHECK.due("made in constructors", inConstructors, 1);
    }
}
