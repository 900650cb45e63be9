import java.io.IOException;
import java.lang.reflect.Constructor;
import java.lang.reflect.Field;
import java.lang.reflect.Method;
import java.lang.reflect.Modifier;
import java.nio.file.Files;
import java.nio.file.Path;
import java.util.Arrays;
import java.util.Set;
import java.util.TreeSet;
import java.util.regex.Matcher;
import java.util.regex.Pattern;

/** What of LANGUAGE.md can be seen from the source and from the compiled class. */
public final class LanguageTest {
    private static final Check CHECK = new Check();
    private static final String FACE =
            "back(1) best(1) betters(0) changes(2) chooses(1) clear(0) copies(0) count(1) directed(2) fitting(2) forget(0)"
            + " keep(1) mixed(2) quarrel(2) rank(1) reading(2) reads(3) root(1) sees(1) shared(2) type(1) undo(0) unseen(0)";

    public static void main(String[] args) throws IOException {
        String source = Files.readString(Path.of("src/main/java/StemmaTree.java"));
        String code = source.replaceAll("(?s)/\\*.*?\\*/", "").replaceAll("//[^\n]*", "");
        forbiddenWords(code);
        face();
        nestedClasses();
        methodsStayShort(source);
        objectsAreMadeWithTheObject(code);
        arraysAreUsedInTestedPlaces(code);
        CHECK.end();
    }

    private static void forbiddenWords(String code) {
        String[] patterns = {"\\bthrow\\b", "\\btry\\b", "\\bcatch\\b", "\\bsynchronized\\b", "\\bassert\\b", "->", "::",
            "\\bimport\\b", "\\bpackage\\b", "\\bprotected\\b", "\\bdouble\\b", "\\bfloat\\b", "Exact\\b", "\\bSystem\\b",
            "\\bstatic\\s*\\{", "\\bvar\\b", "\\bwhile\\b"};
        for (String pattern : patterns) {
            CHECK.isTrue("no " + pattern, !Pattern.compile(pattern).matcher(code).find());
        }
        for (int i = 0; i < code.length(); i++) {
            if (code.charAt(i) > 127) {
                CHECK.isTrue("plain letters at " + i, false);
            }
        }
    }

    private static void face() {
        Set<String> publics = new TreeSet<>();
        Set<String> publicNames = new TreeSet<>();
        for (Method method : StemmaTree.class.getDeclaredMethods()) {
            if (Modifier.isPublic(method.getModifiers())) {
                publics.add(method.getName() + "(" + method.getParameterCount() + ")");
                publicNames.add(method.getName());
                CHECK.isTrue(method + " answers int", method.getReturnType() == int.class);
            }
        }
        CHECK.isTrue("the face is " + publics, String.join(" ", publics).equals(FACE));
        for (Method method : StemmaTree.class.getDeclaredMethods()) {
            boolean isPublic = Modifier.isPublic(method.getModifiers());
            CHECK.isTrue(method + " is public or private", isPublic || Modifier.isPrivate(method.getModifiers()));
            CHECK.isTrue(method + " has its own name", isPublic || !publicNames.contains(method.getName()));
            CHECK.isTrue(method + " has few parameters", method.getParameterCount() <= 7);
        }
        Constructor<?>[] constructors = StemmaTree.class.getDeclaredConstructors();
        CHECK.due("constructors", constructors.length, 1);
        CHECK.due("constructor's parameters", constructors[0].getParameterCount(), 0);
        Set<String> constants = new TreeSet<>();
        int own = 0;
        for (Field field : StemmaTree.class.getDeclaredFields()) {
            if (Modifier.isPublic(field.getModifiers())) {
                constants.add(field.getName());
            } else {
                CHECK.isTrue(field + " is private", Modifier.isPrivate(field.getModifiers()));
            }
            if (Modifier.isStatic(field.getModifiers())) {
                CHECK.isTrue(field + " is final", Modifier.isFinal(field.getModifiers()));
            } else {
                own++;
            }
        }
        CHECK.isTrue("constants are " + constants, constants.equals(Set.of("BAD", "STATE", "FULL", "NONE")));
        CHECK.isTrue("some twenty fields", own <= 20);
        CHECK.isTrue("final", Modifier.isFinal(StemmaTree.class.getModifiers()));
    }

    private static void nestedClasses() {
        Class<?>[] nested = StemmaTree.class.getDeclaredClasses();
        CHECK.isTrue("some twelve classes", nested.length < 12);
        Set<String> publicNames = new TreeSet<>();
        Arrays.stream(FACE.split(" ")).forEach(entry -> publicNames.add(entry.substring(0, entry.indexOf('('))));
        for (Class<?> one : nested) {
            CHECK.isTrue(one + " is static", Modifier.isStatic(one.getModifiers()));
            CHECK.isTrue(one + " is private", Modifier.isPrivate(one.getModifiers()));
            CHECK.isTrue(one + " has some twenty fields", one.getDeclaredFields().length <= 20);
            for (Method method : one.getDeclaredMethods()) {
                CHECK.isTrue(method + " has few parameters", method.getParameterCount() <= 7);
                CHECK.isTrue(method + " has its own name", !publicNames.contains(method.getName()));
            }
        }
    }

    private static void methodsStayShort(String source) {
        String[] lines = source.split("\n");
        for (int i = 0; i < lines.length; i++) {
            Matcher head = Pattern.compile("( {4}| {8})(?!return|else)\\w[\\w ]*\\([^;]*\\) \\{").matcher(lines[i]);
            if (head.matches() && !lines[i].contains(" class ")) {
                int end = i;
                while (end < lines.length && !lines[end].equals(head.group(1) + "}")) {
                    end++;
                }
                CHECK.isTrue(lines[i].trim() + " is short", end - i <= 60);
            }
        }
    }

    /** So that no number of calls fills the room: 'new' stands in fields and in Row's constructor alone. */
    private static void objectsAreMadeWithTheObject(String code) {
        for (String line : code.split("\n")) {
            if (line.contains("new ")) {
                boolean field = line.trim().matches("private final \\w+ \\w+ = new \\w+\\([^;]*\\);");
                boolean row = line.trim().equals("cells = new int[Math.max(length, 0)];");
                CHECK.isTrue("made with the object: " + line.trim(), field || row);
            }
        }
    }

    private static void arraysAreUsedInTestedPlaces(String code) {
        Matcher uses = Pattern.compile("\\w\\[\\w[^\n]*").matcher(code);
        while (uses.find()) {
            String line = code.substring(code.lastIndexOf('\n', uses.start()) + 1, uses.end()).trim();
            boolean tested = line.contains(".length ?") || line.equals("cells[index] = value;")
                    || line.equals("cells = new int[Math.max(length, 0)];");
            CHECK.isTrue("tested index: " + line, tested);
        }
        for (String divide : new String[] {"/", "%"}) {
            Matcher divisions = Pattern.compile(" " + divide + " (\\S+)").matcher(code);
            while (divisions.find()) {
                CHECK.isTrue("divisor " + divisions.group(1), divisions.group(1).matches("[1-9][0-9]*;?"));
            }
        }
    }
}
