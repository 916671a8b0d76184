import java.io.File;
import java.lang.reflect.Field;
import java.lang.reflect.Method;
import java.lang.reflect.Modifier;
import java.nio.file.Files;
import java.nio.file.Path;
import java.util.ArrayList;
import java.util.List;
import java.util.Set;
import java.util.TreeSet;
import java.util.regex.Matcher;
import java.util.regex.Pattern;

/** README.md is true: its calls answer what it says, and it names the calls, constants, classes and tests that there are. */
public final class ReadmeTest {
    private static final Pattern TYPED = Pattern.compile("for \\(char c : \"([^\"]*)\"\\.toCharArray\\(\\)\\) \\{");
    private static final Pattern CALL = Pattern.compile("x\\.(\\w+)\\(([-0-9, ]*)\\);\\s*// (-?\\d+): .*");
    private static final Pattern ITEM = Pattern.compile("- [a-z ]+: (`\\w+`(, `\\w+`)*)");
    private static final Pattern QUOTED = Pattern.compile("`(\\w+)`");
    private static final Pattern CONSTANT = Pattern.compile("`([A-Z]+)` = (-?\\d+)");
    private static final Pattern TEST = Pattern.compile("- `(\\w+)`: .*");

    private static int wrong = 0;

    private static void say(String what) {
        wrong++;
        System.out.println(what);
    }

    private static void same(String what, Set<String> told, Set<String> there) {
        if (!told.equals(there)) {
            say(what + ": README.md tells " + told + ", there are " + there);
        }
    }

    /** The lines between a heading and the next one. */
    private static List<String> section(List<String> lines, String heading) {
        List<String> found = new ArrayList<>();
        boolean inside = false;
        for (String line : lines) {
            if (line.startsWith("## ")) {
                inside = line.equals("## " + heading);
            } else if (inside) {
                found.add(line);
            }
        }
        if (found.isEmpty()) {
            say("README.md has no section '" + heading + "'");
        }
        return found;
    }

    private static Set<String> quoted(String text) {
        Set<String> found = new TreeSet<>();
        Matcher m = QUOTED.matcher(text);
        while (m.find()) {
            found.add(m.group(1));
        }
        return found;
    }

    private static long answer(WordSquares x, String name, String numbers) throws Exception {
        String[] parts = numbers.isBlank() ? new String[0] : numbers.split(",");
        Class<?>[] types = new Class<?>[parts.length];
        Object[] arguments = new Object[parts.length];
        for (int i = 0; i < parts.length; i++) {
            types[i] = int.class;
            arguments[i] = Integer.parseInt(parts[i].trim());
        }
        return ((Number) WordSquares.class.getMethod(name, types).invoke(x, arguments)).longValue();
    }

    private static void example(List<String> usage) throws Exception {
        WordSquares x = new WordSquares();
        int answers = 0;
        for (String line : usage) {
            Matcher typed = TYPED.matcher(line.trim());
            Matcher call = CALL.matcher(line.trim());
            if (typed.matches()) {
                for (char c : typed.group(1).toCharArray()) {
                    x.letter(c);
                }
            } else if (call.matches()) {
                answers++;
                long got = answer(x, call.group(1), call.group(2));
                if (got != Long.parseLong(call.group(3))) {
                    say("README.md: '" + line.trim() + "', but the answer is " + got);
                }
            } else if (line.contains("//") && line.startsWith("    ")) {
                say("README.md: no answer can be read in '" + line.trim() + "'");
            }
        }
        if (answers == 0) {
            say("README.md has no example with answers");
        }
    }

    private static void face(List<String> usage) throws Exception {
        Set<String> calls = new TreeSet<>();
        Set<String> constants = new TreeSet<>();
        for (String line : usage) {
            Matcher item = ITEM.matcher(line);
            if (item.matches()) {
                calls.addAll(quoted(item.group(1)));
            }
            Matcher constant = CONSTANT.matcher(line);
            while (constant.find()) {
                constants.add(constant.group(1) + "=" + constant.group(2));
            }
        }
        Set<String> methods = new TreeSet<>();
        for (Method m : WordSquares.class.getDeclaredMethods()) {
            if (Modifier.isPublic(m.getModifiers())) {
                methods.add(m.getName());
            }
        }
        Set<String> fields = new TreeSet<>();
        for (Field f : WordSquares.class.getFields()) {
            fields.add(f.getName() + "=" + f.getInt(null));
        }
        same("calls", calls, methods);
        same("constants", constants, fields);
    }

    private static void classes(List<String> made) {
        Set<String> there = new TreeSet<>();
        for (Class<?> c : WordSquares.class.getDeclaredClasses()) {
            there.add(c.getSimpleName());
        }
        same("classes", quoted(String.join("\n", made)), there);
    }

    private static void tests(List<String> running) {
        Set<String> told = new TreeSet<>();
        for (String line : running) {
            Matcher test = TEST.matcher(line);
            if (test.matches()) {
                told.add(test.group(1));
            }
        }
        Set<String> there = new TreeSet<>();
        String[] names = new File("src/test/java").list();
        for (String name : names == null ? new String[0] : names) {
            if (name.endsWith(".java")) {
                there.add(name.substring(0, name.length() - ".java".length()));
            }
        }
        same("tests", told, there);
        if (!running.contains("    .ci/run") || !new File(".ci/run").canExecute()) {
            say("README.md tells to call .ci/run, which can be executed");
        }
    }

    public static void main(String[] args) throws Exception {
        List<String> lines = Files.readAllLines(Path.of("README.md"));
        List<String> usage = section(lines, "How to use it");
        example(usage);
        face(usage);
        classes(section(lines, "How it is made"));
        tests(section(lines, "How to run its tests"));
        System.out.println(wrong == 0 ? "README.md is true" : wrong + " faults");
        if (wrong != 0) {
            System.exit(1);
        }
    }
}
