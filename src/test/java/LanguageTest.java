import java.lang.reflect.Constructor;
import java.lang.reflect.Field;
import java.lang.reflect.Method;
import java.lang.reflect.Modifier;
import java.nio.file.Files;
import java.nio.file.Path;
import java.util.ArrayList;
import java.util.Arrays;
import java.util.HashSet;
import java.util.List;
import java.util.Map;
import java.util.Set;
import java.util.TreeMap;
import java.util.TreeSet;
import java.util.regex.Matcher;
import java.util.regex.Pattern;

/** The face as the document tells it, and those rules of LANGUAGE.md that can be seen in the text. */
public final class LanguageTest {
    private static final Path SOURCE = Path.of("src/main/java/NobodysTuesday.java");
    private static final Path DOCUMENT = Path.of("../shared/DOC.md");
    private static int wrong = 0;

    public static void main(String[] args) throws Exception {
        headings(Files.readString(SOURCE));
        String source = withoutComments(Files.readString(SOURCE));
        face(source);
        members();
        forbidden(source);
        library(source);
        lengths(source);
        depths(source);
        System.out.println(wrong == 0 ? "face and language are as told" : wrong + " breaches");
        if (wrong != 0) {
            System.exit(1);
        }
    }

    private static void breach(String what) {
        wrong++;
        System.out.println(what);
    }

    private static String withoutComments(String text) {
        return text.replaceAll("(?s)/\\*.*?\\*/", "").replaceAll("//[^\n]*", "");
    }

    /** Each line of the document's face stands in the source, throws and all. */
    private static void face(String source) throws Exception {
        String document = Files.readString(DOCUMENT);
        int from = document.indexOf("```java");
        String[] lines = document.substring(from, document.indexOf("```", from + 3)).split("\n");
        String flat = source.replaceAll("\\s+", " ");
        Set<String> due = new TreeSet<>();
        for (String line : lines) {
            String row = line.trim();
            if (row.startsWith("public") && row.endsWith(";") && !row.contains("=")) {
                String head = row.substring(0, row.length() - 1);
                due.add(head.replaceAll(".*?(\\w+)\\(.*", "$1"));
                if (!flat.contains(head + " {")) {
                    breach("not in the source: " + row);
                }
            }
        }
        Set<String> is = new TreeSet<>();
        is.add("NobodysTuesday");
        for (Method m : NobodysTuesday.class.getDeclaredMethods()) {
            if (Modifier.isPublic(m.getModifiers())) {
                is.add(m.getName());
            }
        }
        if (!is.equals(due)) {
            breach("the face is " + is + ", due is " + due);
        }
    }

    /** What the interface says ahead of calls stands ahead of just these, in their order. */
    private static void headings(String source) throws Exception {
        Matcher told = Pattern.compile("Ahead of the calls (.*) the interface says: (---- .*)\\.").matcher(Files.readString(DOCUMENT));
        int headings = 0;
        while (told.find()) {
            headings++;
            int from = source.indexOf("// " + told.group(2) + "\n");
            int to = source.indexOf("// ----", from + 1);
            List<String> calls = new ArrayList<>();
            if (from >= 0 && to >= 0) {
                Matcher call = Pattern.compile("(?m)^    public \\w+ (\\w+)\\(").matcher(source.substring(from, to));
                call.results().forEach(r -> calls.add(r.group(1)));
            }
            if (!calls.equals(List.of(told.group(1).replace("`", "").split(", ")))) {
                breach(told.group(2) + " stands ahead of " + calls);
            }
        }
        if (headings != 8) {
            breach("the document has " + headings + " headings");
        }
    }

    private static void members() {
        Class<?> c = NobodysTuesday.class;
        if (!Modifier.isFinal(c.getModifiers()) || !Modifier.isPublic(c.getModifiers())) {
            breach("the class is not public and final");
        }
        Set<String> open = new HashSet<>();
        for (Method m : c.getDeclaredMethods()) {
            if (Modifier.isPublic(m.getModifiers())) {
                open.add(m.getName());
            } else if (!Modifier.isPrivate(m.getModifiers()) && !m.isSynthetic()) {
                breach("not private: " + m);
            }
        }
        for (Field f : c.getDeclaredFields()) {
            boolean isNone = f.getName().equals("NONE");
            if (isNone != Modifier.isPublic(f.getModifiers()) || !isNone && !Modifier.isPrivate(f.getModifiers())) {
                breach("field " + f);
            }
        }
        Constructor<?>[] made = c.getDeclaredConstructors();
        if (made.length != 1 || !Modifier.isPublic(made[0].getModifiers())) {
            breach("constructors " + Arrays.toString(made));
        }
        List<Class<?>> all = new ArrayList<>(List.of(c.getDeclaredClasses()));
        if (all.size() + 1 > 12) {
            breach("too many classes");
        }
        all.add(c);
        for (Class<?> own : all) {
            ofClass(own, c, open);
        }
    }

    private static void ofClass(Class<?> own, Class<?> outer, Set<String> open) {
        if (own != outer && (!Modifier.isStatic(own.getModifiers()) || Modifier.isPublic(own.getModifiers()))) {
            breach("class " + own);
        }
        int fields = 0;
        for (Field f : own.getDeclaredFields()) {
            boolean fixed = Modifier.isStatic(f.getModifiers());
            fields += fixed ? 0 : 1;
            if (fixed && !Modifier.isFinal(f.getModifiers())) {
                breach("static state " + f);
            }
        }
        if (fields > 20) {
            breach("too many fields in " + own);
        }
        for (Method m : own.getDeclaredMethods()) {
            if (m.getParameterCount() > 7) {
                breach("too many parameters: " + m);
            }
            if (own != outer && open.contains(m.getName())) {
                breach("bears the name of a public one: " + m);
            }
            if (own == outer && !Modifier.isPublic(m.getModifiers()) && open.contains(m.getName())) {
                breach("bears the name of a public one: " + m);
            }
        }
    }

    private static void forbidden(String source) {
        String[] words = {"\\btry\\b", "\\bcatch\\b", "\\bfinally\\b", "\\bsynchronized\\b", "\\bassert\\b",
                "->", "::", "Exact\\b", "\\bSystem\\.(?!arraycopy)", "\\bdouble\\b", "\\bfloat\\b", "\\bpackage\\b",
                "static \\{", "\\bThread\\b", "\\bgetMessage\\b", "\\btoString\\b", "\\bhashCode\\b", "\\bprotected\\b"};
        for (String word : words) {
            Matcher m = Pattern.compile(word).matcher(source);
            if (m.find()) {
                breach("forbidden: " + m.group());
            }
        }
        Matcher imports = Pattern.compile("import ([^;]*);").matcher(source);
        while (imports.find()) {
            if (!imports.group(1).equals("java.util.NoSuchElementException")) {
                breach("import " + imports.group(1));
            }
        }
        Set<String> thrown = Set.of("IllegalStateException", "IllegalArgumentException", "IndexOutOfBoundsException",
                "NoSuchElementException");
        Matcher throwing = Pattern.compile("throw (?!new (\\w+)\\(\\);)|throw new (\\w+)").matcher(source);
        while (throwing.find()) {
            if (throwing.group(2) == null || !thrown.contains(throwing.group(2))) {
                breach("throw of another kind");
            }
        }
        for (int i = 0; i < source.length(); i++) {
            if (source.charAt(i) > 126) {
                breach("sign " + (int) source.charAt(i));
            }
        }
    }

    /** Of the library only what LANGUAGE.md lists and the class uses. */
    private static void library(String source) {
        Set<String> listed = Set.of("Math.max", "Math.min", "Math.abs", "Math.floorDiv", "Math.floorMod", "Integer.bitCount",
                "System.arraycopy");
        Matcher used = Pattern.compile("\\b(?:Math|Integer|Long|System|Arrays|List|String|Character|Objects)\\.\\w+").matcher(source);
        while (used.find()) {
            if (!listed.contains(used.group())) {
                breach("library: " + used.group());
            }
        }
        Set<String> made = new TreeSet<>();
        Matcher making = Pattern.compile("new (\\w+)[(\\[]").matcher(source);
        while (making.find()) {
            made.add(making.group(1).endsWith("Exception") ? "exceptions" : making.group(1));
        }
        made.removeAll(Set.of("exceptions", "int", "long", "byte", "boolean"));
        for (Class<?> own : NobodysTuesday.class.getDeclaredClasses()) {
            made.remove(own.getSimpleName());
        }
        if (!made.isEmpty()) {
            breach("made are " + made);
        }
    }

    /** No method calls itself, by way of others either; calls go at most eight deep. Methods are told by their names. */
    private static void depths(String source) {
        Map<String, Set<String>> calls = new TreeMap<>();
        Matcher heads = Pattern.compile("(?m)^( {4}| {8})(?:public |private |static |final )*\\w+(?:\\[\\])? (\\w+)\\([^;=]*?\\{$")
                .matcher(source);
        while (heads.find()) {
            int end = source.indexOf("\n" + heads.group(1) + "}", heads.end());
            Matcher names = Pattern.compile("\\b(\\w+)\\(").matcher(source.substring(heads.end(), end));
            Set<String> called = calls.computeIfAbsent(heads.group(2), name -> new TreeSet<>());
            names.results().forEach(r -> called.add(r.group(1)));
        }
        if (calls.size() < 100) {
            breach("just " + calls.size() + " methods are found");
        }
        for (String name : calls.keySet()) {
            if (depth(calls, name, 1) > 8) {
                breach("too deep: " + name);
            }
        }
    }

    private static int depth(Map<String, Set<String>> calls, String name, int from) {
        int deepest = from;
        for (String called : calls.getOrDefault(name, Set.of())) {
            if (from < 12 && calls.containsKey(called)) {
                deepest = Math.max(deepest, depth(calls, called, from + 1));
            }
        }
        return deepest;
    }

    /** Methods by their braces, at most some sixty lines each. */
    private static void lengths(String source) {
        Matcher heads = Pattern.compile("(?m)^( {4}| {8})(?! |return|if|for|while|switch)[\\w\\[\\]<> ]+\\(.*$").matcher(source);
        while (heads.find()) {
            int end = source.indexOf("\n" + heads.group(1) + "}", heads.end());
            if (end > 0 && heads.group().endsWith("{") && source.substring(heads.start(), end).split("\n").length > 60) {
                breach("too long: " + heads.group().trim());
            }
        }
    }
}
