import java.io.IOException;
import java.lang.reflect.InvocationTargetException;
import java.lang.reflect.Method;
import java.lang.reflect.Modifier;
import java.nio.file.Files;
import java.nio.file.Path;
import java.util.ArrayList;
import java.util.List;
import java.util.TreeMap;
import java.util.TreeSet;
import java.util.regex.Matcher;
import java.util.regex.Pattern;
import java.util.stream.Collectors;
import java.util.stream.Stream;

/** README.md holds: its calls answer so, its tables are the face, its tests are those that there are. */
public final class ReadmeTest {
    private static final Path TESTS = Path.of("src/test/java");
    private static final Pattern EXAMPLE = Pattern.compile("x\\.(\\w+)\\((.*?)\\);(?:\\s+// (.*))?");
    private static final Pattern ROW = Pattern.compile("(?m)^\\| `(\\w+)\\((.*?)\\)` \\|(.*)\\|(.*)\\|$");
    private static int wrong = 0;

    public static void main(String[] args) throws IOException {
        String page = Files.readString(Path.of("README.md"));
        List<String> blocks = javaBlocks(page);
        if (blocks.size() != 2) {
            wrong("due are two blocks of Java");
        } else {
            int calls = makeCalls(blocks.get(0));
            helper(blocks.get(1));
            tables(page);
            files(page);
            System.out.println("README.md: " + calls + " calls, " + wrong + " wrong");
        }
        if (wrong != 0) {
            System.exit(1);
        }
    }

    private static void wrong(String what) {
        wrong++;
        System.out.println("README.md: " + what);
    }

    private static List<String> javaBlocks(String page) {
        List<String> blocks = new ArrayList<>();
        Matcher block = Pattern.compile("(?s)```java\n(.*?)```").matcher(page);
        while (block.find()) {
            blocks.add(block.group(1));
        }
        return blocks;
    }

    // ---- the example

    private static int makeCalls(String block) {
        NobodysTuesday x = null;
        int calls = 0;
        for (String line : block.split("\n")) {
            Matcher example = EXAMPLE.matcher(line);
            if (line.equals("NobodysTuesday x = new NobodysTuesday();")) {
                x = new NobodysTuesday();
            } else if (example.matches()) {
                calls++;
                String due = example.group(3) == null ? "null" : example.group(3).replaceAll(":.*", "");
                String got = answer(x, example.group(1), example.group(2).split(", *"));
                if (!got.equals(due)) {
                    wrong(line + " answers " + got);
                }
            } else if (!line.startsWith("//")) {
                wrong("what is " + line);
            }
        }
        return calls;
    }

    private static String answer(NobodysTuesday x, String call, String[] numbers) {
        for (Method m : NobodysTuesday.class.getMethods()) {
            if (m.getName().equals(call)) {
                return answer(x, m, numbers);
            }
        }
        return "no such call";
    }

    private static String answer(NobodysTuesday x, Method m, String[] numbers) {
        Object[] arguments = new Object[m.getParameterCount()];
        for (int i = 0; i < arguments.length; i++) {
            boolean isLong = m.getParameterTypes()[i] == long.class;
            arguments[i] = isLong ? (Object) Long.decode(numbers[i]) : (Object) Integer.decode(numbers[i]);
        }
        try {
            return String.valueOf(m.invoke(x, arguments));
        } catch (InvocationTargetException e) {
            return "throws " + e.getCause().getClass().getSimpleName();
        } catch (IllegalAccessException e) {
            return "closed";
        }
    }

    /** How a String comes on the tape is just what the rows of the tests do. */
    private static void helper(String block) throws IOException {
        String rows = Files.readString(TESTS.resolve("Rows.java")).replaceAll("\\s+", " ");
        if (!rows.contains(block.replaceAll("\\s+", " ").trim())) {
            wrong("Rows.java lays a text in another way");
        }
    }

    // ---- the tables

    private static void tables(String page) throws IOException {
        TreeMap<String, String> due = new TreeMap<>();
        for (Method m : NobodysTuesday.class.getDeclaredMethods()) {
            if (Modifier.isPublic(m.getModifiers())) {
                due.put(m.getName(), Stream.of(m.getExceptionTypes()).map(Class::getSimpleName).toList().toString());
            }
        }
        String document = Files.readString(Path.of("../shared/DOC.md"));
        TreeSet<String> told = new TreeSet<>();
        Matcher row = ROW.matcher(page);
        while (row.find()) {
            String call = row.group(1);
            String names = row.group(2).isEmpty() ? "" : row.group(2).replaceAll("(\\w+)", "\\\\w+ $1");
            if (!told.add(call)) {
                wrong(call + " is told twice");
            }
            if (!exceptions(row.group(4)).equals(due.get(call))) {
                wrong(call + " throws " + due.get(call));
            }
            if (!Pattern.compile("public \\w+ " + call + "\\(" + names + "\\)").matcher(document).find()) {
                wrong("the document calls " + call + " in another way");
            }
        }
        if (!told.equals(due.keySet())) {
            wrong("told are " + told + ", due are " + due.keySet());
        }
    }

    private static String exceptions(String cell) {
        return Pattern.compile("\\w+Exception").matcher(cell).results().map(r -> r.group()).toList().toString();
    }

    // ---- the tests

    private static void files(String page) throws IOException {
        try (Stream<Path> all = Files.list(TESTS)) {
            for (String name : all.map(p -> p.getFileName().toString().replace(".java", "")).collect(Collectors.toList())) {
                if (!page.contains("`" + name + "`")) {
                    wrong("nothing of " + name);
                }
            }
        }
    }
}
