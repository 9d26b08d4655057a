import java.io.IOException;
import java.lang.reflect.Field;
import java.lang.reflect.Method;
import java.lang.reflect.Modifier;
import java.nio.file.Files;
import java.nio.file.Path;
import java.util.HashSet;
import java.util.LinkedHashMap;
import java.util.Map;
import java.util.Set;
import java.util.TreeMap;
import java.util.regex.Matcher;
import java.util.regex.Pattern;

/** Looks for what ../shared/LANGUAGE.md rules out, as far as the program's text and its members tell. */
public final class LanguageTest {
    private static final Path PROGRAM = Path.of("src/main/java/JobBoard.java");
    private static final int MOST_CLASSES = 12;
    private static final int MOST_FIELDS = 20;
    private static final int MOST_PARAMETERS = 7;
    private static final int MOST_LINES = 60;
    private static final int MOST_CALLS_DEEP = 8;

    private static final Pattern COMMENT = Pattern.compile("(?s)/\\*.*?\\*/|//[^\\n]*");
    private static final Pattern METHOD =
            Pattern.compile("(?ms)^( +)(?:[\\w\\[\\]]+ )*(\\w+)\\([^)\\n]*\\)[^;{}\\n]* \\{\\n(.*?)^\\1\\}$");
    private static final Pattern NAME_CALLED = Pattern.compile("(?<!new )\\b(\\w+)\\(");
    private static final Pattern LIBRARY = Pattern.compile("\\b(System|Math|Arrays|Integer|Long|List|String)\\.(\\w+)");
    private static final Set<String> ALLOWED = Set.of("System.arraycopy", "Math.max", "Math.min");
    private static final Pattern THROWN = Pattern.compile("\\bthrow\\b(?! new (?:IllegalState|IllegalArgument"
            + "|IndexOutOfBounds|UnsupportedOperation)Exception\\(\\);)");

    /** Each pattern with the number of the rule that it breaks. */
    private static final Map<String, Integer> RULED_OUT = new LinkedHashMap<>();

    static {
        RULED_OUT.put("\\b(?:package|import)\\b", 4);
        RULED_OUT.put("->|::", 2);
        RULED_OUT.put("\\b(?:double|float|Object|Class|Thread|Random)\\b", 3);
        RULED_OUT.put("\\bstatic \\{", 5);
        RULED_OUT.put("\\b(?:try|catch|finally|synchronized|assert|volatile|native|yield)\\b", 6);
        RULED_OUT.put("\\b(?:equals|hashCode|toString|getMessage)\\b", 6);
        RULED_OUT.put("\\bwhile \\(true\\)|\\bfor \\(;", 9);
    }

    private int wrong;

    public static void main(String[] args) throws IOException {
        LanguageTest test = new LanguageTest();
        String text = COMMENT.matcher(Files.readString(PROGRAM)).replaceAll("");
        test.lookAtWords(text);
        test.lookAtClasses();
        test.lookAtMethods(text);
        System.out.println(test.wrong == 0 ? "nothing was found that the language rules out" : test.wrong + " faults");
        if (test.wrong != 0) {
            System.exit(1);
        }
    }

    private void lookAtWords(String text) {
        for (Map.Entry<String, Integer> ruledOut : RULED_OUT.entrySet()) {
            Matcher m = Pattern.compile(ruledOut.getKey()).matcher(text);
            while (m.find()) {
                complain(ruledOut.getValue(), m.group());
            }
        }
        Matcher used = LIBRARY.matcher(text);
        while (used.find()) {
            if (!ALLOWED.contains(used.group())) {
                complain(4, used.group());
            }
        }
        if (THROWN.matcher(text).find()) {
            complain(6, "something else is thrown than a new exception of the document");
        }
    }

    private void lookAtClasses() {
        Class<?>[] inside = JobBoard.class.getDeclaredClasses();
        if (inside.length + 1 > MOST_CLASSES) {
            complain(11, "too many classes");
        }
        lookAtFields(JobBoard.class);
        lookAtParameters(JobBoard.class);
        for (Class<?> c : inside) {
            if (!Modifier.isStatic(c.getModifiers()) || Modifier.isPublic(c.getModifiers()) || Modifier.isProtected(c.getModifiers())) {
                complain(1, c + " is not static, or not private");
            }
            lookAtFields(c);
            lookAtParameters(c);
            lookAtNames(c);
        }
    }

    private void lookAtFields(Class<?> c) {
        int fields = 0;
        for (Field f : c.getDeclaredFields()) {
            if (!Modifier.isStatic(f.getModifiers())) {
                fields++;
            } else if (!Modifier.isFinal(f.getModifiers()) || !f.getType().isPrimitive()) {
                complain(5, f + " is no constant");
            }
        }
        if (fields > MOST_FIELDS) {
            complain(11, c + " has too many fields");
        }
    }

    private void lookAtParameters(Class<?> c) {
        for (Method m : c.getDeclaredMethods()) {
            if (m.getParameterCount() > MOST_PARAMETERS) {
                complain(11, m + " has too many parameters");
            }
        }
    }

    private void lookAtNames(Class<?> c) {
        Set<String> face = new HashSet<>();
        for (Method m : JobBoard.class.getDeclaredMethods()) {
            if (Modifier.isPublic(m.getModifiers())) {
                face.add(m.getName());
            }
        }
        for (Method m : c.getDeclaredMethods()) {
            if (face.contains(m.getName())) {
                complain(1, m + " has a name of the face");
            }
        }
    }

    private void lookAtMethods(String text) {
        Map<String, Set<String>> called = new TreeMap<>();
        Matcher method = METHOD.matcher(text);
        while (method.find()) {
            if (method.group(3).lines().count() > MOST_LINES) {
                complain(11, method.group(2) + " is too long");
            }
            Set<String> names = called.computeIfAbsent(method.group(2), name -> new HashSet<>());
            Matcher name = NAME_CALLED.matcher(method.group(3));
            while (name.find()) {
                names.add(name.group(1));
            }
        }
        for (Method m : JobBoard.class.getDeclaredMethods()) {
            if (!called.containsKey(m.getName())) {
                complain(11, m + " was not found in the text");
            }
        }
        for (String name : called.keySet()) {
            lookAtDepth(called, name, "", 1);
        }
    }

    /** Only a method that calls itself may go deeper, and by that it goes no further here. */
    private void lookAtDepth(Map<String, Set<String>> called, String name, String above, int depth) {
        String path = above + " > " + name;
        if (depth > MOST_CALLS_DEEP) {
            complain(11, "too deep:" + path);
            return;
        }
        for (String next : called.get(name)) {
            if (called.containsKey(next) && !next.equals(name)) {
                lookAtDepth(called, next, path, depth + 1);
            }
        }
    }

    private void complain(int rule, String what) {
        wrong++;
        System.out.println("rule " + rule + ": " + what);
    }
}
