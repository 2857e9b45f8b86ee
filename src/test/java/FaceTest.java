import java.lang.reflect.Modifier;
import java.nio.charset.StandardCharsets;
import java.nio.file.Files;
import java.nio.file.Path;
import java.util.ArrayList;
import java.util.Arrays;
import java.util.HashSet;
import java.util.List;
import java.util.Set;
import java.util.TreeSet;
import java.util.regex.Matcher;
import java.util.regex.Pattern;

/** The public face as the document has it, and the rules of LANGUAGE.md that can be read off the source. */
public final class FaceTest {
    private static final String[] FACE = {
        "int row(int, int, int)", "int set(int, int, int)", "int copy(int, int, int, int, int)", "int drop(int)",
        "int feed(int)", "int sheet()", "int fault()", "int undo()", "int put(int, int, int, int)", "int take(int)",
        "int move(int, int)", "int change(int, int, int, int)", "int style(int, int)", "int paragraph(int, int)",
        "int label(int, int, int)", "int called(int, int, int)", "int span(int, int, int, int)", "int register(int)",
        "int bears(int, int, int)", "int changed(int)", "int nearest(int, int)", "int sets(int)", "int deepest(int)",
        "int who(int, int, int, int, int)", "long lost(int, int, int, int)", "int drawn(int, int, int)",
        "int image(int)", "int restore(int)", "int kind(int)", "int as(int, int)", "int ask(int, int)",
        "int trace(int)", "int count(int)", "int status()"};

    private static final String[] FORBIDDEN = {
        "throw", "throws", "try", "catch", "finally", "synchronized", "assert", "Object", "System\\.out", "Thread",
        "Random", "currentTimeMillis", "nanoTime", "hashCode", "toString\\(\\)\\s*\\{", "->", "::", "Exact\\b",
        "Exception", "static\\s*\\{", "import (?!java\\.util\\.(Arrays|ArrayList|List|Iterator);)",
        "Arrays\\.(?!copyOf\\b|copyOfRange\\b|fill\\b)", "System\\.(?!arraycopy\\b)", "protected", "package"};

    private static final Set<Class<?>> STATIC_TYPES = Set.of(
        int.class, long.class, boolean.class, char.class, String.class, int[].class, long[].class, char[].class, byte[].class);

    private static int wrong = 0;

    private static void want(boolean fits, String what) {
        if (!fits) {
            wrong++;
            System.out.println(what);
        }
    }

    private static void face() throws IllegalAccessException {
        Class<?> c = CountedLists.class;
        want(Modifier.isFinal(c.getModifiers()) && Modifier.isPublic(c.getModifiers()), "the class is public and final");
        Set<String> got = new TreeSet<>();
        Set<String> names = new HashSet<>();
        List<String> hidden = new ArrayList<>();
        for (var m : c.getDeclaredMethods()) {
            if (Modifier.isPublic(m.getModifiers())) {
                String types = String.join(", ", Arrays.stream(m.getParameterTypes()).map(Class::getName).toList());
                got.add(m.getReturnType().getName() + " " + m.getName() + "(" + types + ")");
                names.add(m.getName());
            } else if (!m.isSynthetic()) {
                want(Modifier.isPrivate(m.getModifiers()), m + " is private");
                hidden.add(m.getName());
            }
        }
        want(got.equals(new TreeSet<>(Arrays.asList(FACE))), "the face is " + got);
        for (Class<?> inside : c.getDeclaredClasses()) {
            want(Modifier.isStatic(inside.getModifiers()), inside + " is static");
            want(!Modifier.isPublic(inside.getModifiers()), inside + " is not public");
            for (var m : inside.getDeclaredMethods()) {
                hidden.add(m.getName());
            }
            limits(inside);
        }
        for (String name : hidden) {
            want(!names.contains(name), "no other method bears the name " + name);
        }
        constants(c);
        limits(c);
        want(c.getDeclaredClasses().length <= 12, "at most twelve classes");
        want(c.getConstructors().length == 1 && c.getDeclaredConstructors().length == 1, "one constructor");
    }

    private static void constants(Class<?> c) throws IllegalAccessException {
        Set<String> constants = new TreeSet<>();
        for (var f : c.getDeclaredFields()) {
            if (Modifier.isPublic(f.getModifiers())) {
                constants.add(Modifier.toString(f.getModifiers()) + " " + f.getType() + " " + f.getName() + " = " + f.get(null));
            } else {
                want(Modifier.isPrivate(f.getModifiers()), f + " is private");
            }
        }
        String kept = "public static final int ";
        Set<String> due = new TreeSet<>(List.of(kept + "NONE = -1000000", kept + "BAD = -1000001",
            kept + "STATE = -1000002", kept + "FULL = -1000003"));
        want(constants.equals(due), "the constants are " + constants);
    }

    private static void limits(Class<?> c) {
        int own = 0;
        for (var m : c.getDeclaredMethods()) {
            want(m.getParameterCount() <= 7, m + " has more than seven parameters");
        }
        for (var f : c.getDeclaredFields()) {
            if (Modifier.isStatic(f.getModifiers())) {
                want(Modifier.isFinal(f.getModifiers()), f + " is final");
                want(STATIC_TYPES.contains(f.getType()) || f.isEnumConstant() || f.isSynthetic(), f + " is no constant");
            } else {
                own++;
            }
        }
        want(own <= 20, c + " has " + own + " fields");
    }

    private static void source() throws Exception {
        String text = Files.readString(Path.of("src/main/java/CountedLists.java"), StandardCharsets.ISO_8859_1);
        want(text.chars().allMatch(code -> code == '\n' || code >= 32 && code < 127), "the source is of plain signs");
        String code = text.replaceAll("(?s)/\\*.*?\\*/", "").replaceAll("//[^\n]*", "");
        for (String word : FORBIDDEN) {
            String bounded = Character.isLetter(word.charAt(0)) ? "\\b" + word : word;
            if (word.matches("[a-zA-Z]+")) {
                bounded += "\\b";
            }
            Matcher found = Pattern.compile(bounded).matcher(code);
            want(!found.find(), "the source has " + word);
        }
        String[] lines = text.split("\n");
        int begun = -1;
        for (int i = 0; i < lines.length; i++) {
            if (lines[i].matches(" {4,8}\\S.*\\) \\{") && !lines[i].matches("\\s*(if|for|while|switch|\\}).*")) {
                begun = i;
            } else if (lines[i].matches(" {4}\\}| {8}\\}") && begun >= 0) {
                want(i - begun < 60, "the method at line " + (begun + 1) + " is long");
                begun = -1;
            }
        }
    }

    public static void main(String[] args) throws Exception {
        face();
        source();
        System.out.println(wrong == 0 ? "the face is as told" : wrong + " things are not as told");
        if (wrong != 0) {
            System.exit(1);
        }
    }
}
