import java.io.IOException;
import java.lang.reflect.Method;
import java.lang.reflect.Modifier;
import java.nio.file.Files;
import java.nio.file.Path;
import java.util.ArrayList;
import java.util.List;
import java.util.Set;
import java.util.TreeSet;
import java.util.regex.Matcher;
import java.util.regex.Pattern;

/**
 * README.md is true as it stands: every call in it gives the answer that is told behind it, every call of the
 * face is shown, and every test that it names is there.
 */
public final class ReadmeTest {
    private static final Pattern CODE = Pattern.compile("```java\n(.*?)```", Pattern.DOTALL);
    private static final Pattern FEEDS = Pattern.compile("for \\(char c : \"([^\"]*)\"\\.toCharArray\\(\\)\\) x\\.feed\\(c\\);");
    private static final Pattern CALL =
        Pattern.compile("x\\.(\\w+)\\(((?:(?:-?\\d+|'.')(?:, )?)*)\\); +// (-?\\d+|'.'|[A-Z]+)(?:[:,] .*)?");
    private static final Pattern TEST_METHOD = Pattern.compile("private static void (\\w+)\\(\\)");
    private static final String SENTENCES = "| the document's sentence | test |\n|---|---|\n";
    private static final int MOST_CALLS = 512;

    private static int wrong = 0;
    private static int answers = 0;
    private static final Set<String> shown = new TreeSet<>();

    private CountedLists x = null;
    private int calls = 0;

    private static void report(String what) {
        wrong++;
        System.out.println("README.md: " + what);
    }

    private static long number(String told) throws ReflectiveOperationException {
        if (told.startsWith("'")) {
            return told.charAt(1);
        }
        if (Character.isLetter(told.charAt(0))) {
            return CountedLists.class.getField(told).getInt(null);
        }
        return Long.parseLong(told);
    }

    private static long answerOf(CountedLists x, String name, String told) throws ReflectiveOperationException {
        List<Object> given = new ArrayList<>();
        for (String one : told.isEmpty() ? new String[0] : told.split(", ")) {
            given.add((int) number(one));
        }
        for (Method method : CountedLists.class.getMethods()) {
            if (method.getName().equals(name)) {
                return ((Number) method.invoke(x, given.toArray())).longValue();
            }
        }
        throw new IllegalStateException("there is no call " + name);
    }

    private void line(String line) throws ReflectiveOperationException {
        Matcher feeds = FEEDS.matcher(line);
        Matcher call = CALL.matcher(line);
        if (line.equals("CountedLists x = new CountedLists();")) {
            x = new CountedLists();
            calls = 0;
        } else if (feeds.matches()) {
            Check.feed(x, feeds.group(1));
            calls += feeds.group(1).length();
        } else if (call.matches()) {
            long got = answerOf(x, call.group(1), call.group(2));
            shown.add(call.group(1));
            answers++;
            calls++;
            if (got != number(call.group(3))) {
                report(line + " answered " + got);
            }
        } else {
            report("no answer is told in: " + line);
        }
        if (calls > MOST_CALLS) {
            report("more than " + MOST_CALLS + " calls of one object");
        }
    }

    private static void calls(String text) throws ReflectiveOperationException {
        Matcher code = CODE.matcher(text);
        while (code.find()) {
            ReadmeTest block = new ReadmeTest();
            for (String line : code.group(1).split("\n")) {
                if (!line.isBlank()) {
                    block.line(line);
                }
            }
        }
        for (Method method : CountedLists.class.getDeclaredMethods()) {
            if (Modifier.isPublic(method.getModifiers()) && !shown.contains(method.getName())) {
                report("the call " + method.getName() + " is not shown");
            }
        }
    }

    /** The tests as Class, and their methods that are run as Class.method. */
    private static Set<String> testsThatAreThere() throws IOException {
        Set<String> there = new TreeSet<>();
        try (var files = Files.list(Path.of("src/test/java"))) {
            for (Path file : files.toList()) {
                String name = file.getFileName().toString().replace(".java", "");
                String source = Files.readString(file);
                there.add(name);
                Matcher method = TEST_METHOD.matcher(source);
                while (method.find()) {
                    if (source.contains("        " + method.group(1) + "();\n")) {
                        there.add(name + "." + method.group(1));
                    }
                }
            }
        }
        return there;
    }

    private static void tests(String text) throws IOException {
        Set<String> there = testsThatAreThere();
        for (String name : there) {
            if (!name.contains(".") && !text.contains("\n| " + name + " | ")) {
                report("the test " + name + " is not told of");
            }
        }
        int sentences = text.indexOf(SENTENCES);
        if (sentences < 0) {
            report("the table of sentences is missing");
            return;
        }
        String last = "";
        for (String row : text.substring(sentences + SENTENCES.length()).split("\n")) {
            String[] cells = row.split("\\|");
            for (String name : cells[cells.length - 1].trim().split(", ")) {
                // A method without a class is of the class that was named last.
                String whole = Character.isUpperCase(name.charAt(0)) ? name : last + "." + name;
                last = whole.split("\\.")[0];
                if (!there.contains(whole)) {
                    report("there is no test " + whole);
                }
            }
        }
    }

    public static void main(String[] args) throws Exception {
        String text = Files.readString(Path.of("README.md"));
        calls(text);
        tests(text);
        System.out.println(answers + " answers of README.md, " + wrong + " things wrong");
        if (wrong != 0 || answers == 0) {
            System.exit(1);
        }
    }
}
