import java.io.IOException;
import java.io.InputStream;
import java.nio.file.Files;
import java.nio.file.Path;
import java.util.ArrayList;
import java.util.List;
import java.util.Map;
import java.util.Set;
import java.util.TreeMap;
import java.util.regex.Matcher;
import java.util.regex.Pattern;

/** The rules of LANGUAGE.md that the source or the compiled program can be asked about. */
public final class LanguageTest {
    private static final String SOURCE = "src/main/java/RoomFederation.java";
    private static final Set<String> LIBRARY = Set.of(
        "java/lang/Object.<init>()V", "java/lang/Math.min(II)I", "java/lang/Long.bitCount(J)I");
    private static final String MULTIPLE_ARRAY = "[[";
    private static final int ATHROW = 191, MONITORENTER = 194, INVOKEDYNAMIC = 186, CHECKCAST = 192;
    private static final int MOST_CLASSES = 12, MOST_FIELDS = 20, MOST_DEPTH = 8, MOST_LINES = 60;

    private final List<ClassFile> classes = new ArrayList<>();
    private final Map<String, ClassFile.Method> methods = new TreeMap<>();
    private final Map<String, Integer> depths = new TreeMap<>();

    private LanguageTest() throws IOException {
        add(RoomFederation.class);
        for (Class<?> inside : RoomFederation.class.getDeclaredClasses()) {
            add(inside);
        }
    }

    public static void main(String[] args) throws IOException {
        LanguageTest test = new LanguageTest();
        test.classesAndFields();
        test.libraryAndWords();
        test.callsGoNotDeep();
        test.codeIsPlain();
        methodsAreShort();
        words();
        Check.end();
    }

    private void add(Class<?> c) throws IOException {
        try (InputStream in = c.getResourceAsStream("/" + c.getName() + ".class")) {
            ClassFile read = new ClassFile(in.readAllBytes());
            classes.add(read);
            methods.putAll(read.methods);
        }
    }

    private static void holds(String what, boolean is) {
        Check.due(what, is ? 1 : 0, 1);
    }

    /** Rules 2, 3, 5 and 11. */
    private void classesAndFields() {
        holds("some twelve classes", classes.size() <= MOST_CLASSES);
        for (ClassFile c : classes) {
            int own = 0;
            for (ClassFile.Field f : c.fields) {
                boolean isStatic = (f.access() & ClassFile.STATIC) != 0;
                own += isStatic ? 0 : 1;
                holds(c.name + " " + f.name() + " is final", !isStatic || (f.access() & ClassFile.FINAL) != 0);
                holds(c.name + " " + f.name() + " is constant", !isStatic || f.type().matches("\\[?[IJZCB]"));
                holds(c.name + " " + f.name() + " is of a type that may be",
                    f.type().matches("\\[?([IJSBCZ]|LRoomFederation\\$\\w+;)"));
            }
            holds(c.name + " has some twenty fields", own <= MOST_FIELDS);
            holds(c.name + " has no static block", !c.methods.containsKey(c.name + ".<clinit>()V"));
        }
    }

    /** Rules 4 and 6. */
    private void libraryAndWords() {
        for (ClassFile.Method m : methods.values()) {
            for (String called : m.calls()) {
                holds(m.name() + " calls " + called, methods.containsKey(called) || LIBRARY.contains(called));
            }
        }
    }

    /** Rules 2, 6: nothing is thrown, caught, locked, cast or made by a lambda. */
    private void codeIsPlain() {
        for (ClassFile.Method m : methods.values()) {
            holds(m.name() + " throws", !m.opcodes().contains(ATHROW));
            holds(m.name() + " catches", m.handlers() == 0);
            holds(m.name() + " locks", !m.opcodes().contains(MONITORENTER));
            holds(m.name() + " has a lambda or joins texts", !m.opcodes().contains(INVOKEDYNAMIC));
            holds(m.name() + " casts", !m.opcodes().contains(CHECKCAST));
            holds(m.name() + " has arrays of arrays", !m.name().contains(MULTIPLE_ARRAY));
        }
    }

    /** Rules 8 and 11: the program has no recursion, and its calls go at most eight deep. */
    private void callsGoNotDeep() {
        for (String name : methods.keySet()) {
            holds(name + " goes at most eight deep", depth(name, 0) <= MOST_DEPTH);
        }
        holds("the depth is seen", depth("RoomFederation.send(IIIII)I", 0) > 3);
    }

    private int depth(String name, int above) {
        if (above > MOST_DEPTH) {
            return above;
        }
        Integer found = depths.get(name);
        if (found != null) {
            return found;
        }
        int deepest = 0;
        for (String called : methods.get(name).calls()) {
            if (methods.containsKey(called)) {
                deepest = Math.max(deepest, depth(called, above + 1));
            }
        }
        depths.put(name, deepest + 1);
        return deepest + 1;
    }

    /** Rule 11: from the line that opens a method to the one that closes it. */
    private static void methodsAreShort() throws IOException {
        List<String> lines = Files.readAllLines(Path.of(SOURCE));
        int found = 0;
        for (int i = 0; i < lines.size(); i++) {
            String line = lines.get(i);
            if (!line.matches("( {4}| {8})\\w.*\\(.*\\) \\{")) {
                continue;
            }
            String close = line.replaceAll("\\S.*", "}");
            int end = i;
            while (end < lines.size() && !lines.get(end).equals(close)) {
                end++;
            }
            found++;
            holds("line " + (i + 1) + " opens a short method", end - i < MOST_LINES);
        }
        holds("methods were found", found > 60);
    }

    private static void words() throws IOException {
        String code = Files.readString(Path.of(SOURCE))
            .replaceAll("(?s)/\\*.*?\\*/", " ").replaceAll("//[^\n]*", " ");
        Matcher found = Pattern.compile("\\b(throw|throws|try|catch|finally|synchronized|assert|import|package"
            + "|protected|volatile|native|var|equals|hashCode|toString|Object|\\w+Exact)\\b|->|::|@").matcher(code);
        while (found.find()) {
            Check.due("the program has the word " + found.group(), 1, 0);
        }
        Matcher publics = Pattern.compile("\\bpublic\\b").matcher(code);
        Check.due("public: the class, the constants, the constructor, 12 methods", publics.results().count(), 15);
    }
}
