import java.lang.reflect.Constructor;
import java.lang.reflect.Executable;
import java.lang.reflect.Field;
import java.lang.reflect.Method;
import java.lang.reflect.Modifier;
import java.nio.file.Files;
import java.nio.file.Path;
import java.util.ArrayList;
import java.util.List;
import java.util.Set;
import java.util.regex.Matcher;
import java.util.regex.Pattern;

/** Rules of LANGUAGE.md that can be seen by looking at the class's text and at its members. */
public final class LanguageTest {
    private static final Check check = new Check();
    private static final Set<Class<?>> STATIC_TYPES = Set.of(int.class, long.class, boolean.class, char.class,
        String.class, int[].class, long[].class, char[].class, byte[].class);

    public static void main(String[] args) throws Exception {
        String code = plain(Files.readString(Path.of("src/main/java/CommaCopies.java")));
        words(code);
        library(code);
        lengths(code);
        List<Class<?>> all = new ArrayList<>(List.of(CommaCopies.class.getDeclaredClasses()));
        check.due("11 classes " + all.size(), all.size() <= 12 ? 1 : 0, 1);
        all.add(CommaCopies.class);
        for (Class<?> c : all) {
            fields(c);
            parameters(c);
        }
        check.end();
    }

    /** Without comments, and without signs in quotes. */
    private static String plain(String text) {
        return text.replaceAll("(?s)/\\*.*?\\*/", "").replaceAll("//[^\n]*", "").replaceAll("'[^'\n]+'", "0");
    }

    private static void none(String rule, String code, String pattern) {
        Matcher m = Pattern.compile(pattern).matcher(code);
        boolean found = m.find();
        check.due(rule + (found ? ": " + m.group() : ""), found ? 1 : 0, 0);
    }

    private static void words(String code) {
        none("no package line", code, "\\bpackage\\b");
        none("2 no lambda, no method reference", code, "->|::");
        none("4 none whose name ends in Exact", code, "\\w+Exact\\b");
        none("6 words that are not wanted", code,
            "\\b(finally|synchronized|assert|volatile|native|transient|strictfp|getMessage|hashCode|toString|getClass)\\b");
        // The class needs no exception at all: no call of the face may throw one.
        none("6 no exception", code, "\\b(try|catch|throw|throws|Throwable|Exception|Error)\\b");
        none("13 no clock, no randomness, no file, thread or environment", code,
            "\\b(currentTimeMillis|nanoTime|Random|random|File|Thread|getenv|getProperty|out|err|exit)\\b");
        none("3 types", code, "\\b(Object|Map|Set|HashMap|BigInteger|Character|Long\\[|double|float|var)\\b");
        none("5 no static initialiser", code, "\\bstatic\\s*\\{");
        none("7, 9 no loop without a bound of its own", code, "while \\(true\\)|for \\(;;\\)");
    }

    private static void library(String code) {
        none("4 imports", code, "import (?!java\\.util\\.(Arrays|ArrayList|List);)");
        none("4 System", code, "\\bSystem\\.(?!arraycopy\\()");
        none("4 Arrays", code, "\\bArrays\\.(?!(fill|copyOf|copyOfRange)\\(|;)");
        none("4 Integer, Long, Math: functions alone", code, "\\b(Integer|Long|Math)\\.(?![a-z]\\w*\\()");
    }

    /** A method begins at a line with a mark of who may call it and ends at the brace below that mark. */
    private static void lengths(String code) {
        Pattern head = Pattern.compile("(?m)^( +)(public|private) [^;=\n]*\\([^;\n]*\\{\n");
        Matcher m = head.matcher(code);
        int found = 0;
        while (m.find()) {
            found++;
            int end = code.indexOf("\n" + m.group(1) + "}", m.end() - 1);
            long lines = code.substring(m.start(), end + 1).lines().count() + 1;
            check.due("11 lines of " + m.group().trim() + " " + lines, lines <= 60 ? 1 : 0, 1);
        }
        check.due("11 methods were found", found > 100 ? 1 : 0, 1);
    }

    private static void fields(Class<?> c) {
        int own = 0;
        for (Field f : c.getDeclaredFields()) {
            if (f.isSynthetic()) {
                continue;
            }
            String name = c.getSimpleName() + "." + f.getName();
            if (Modifier.isStatic(f.getModifiers())) {
                check.due("5 static is final: " + name, Modifier.isFinal(f.getModifiers()) ? 1 : 0, 1);
                check.due("5 type of " + name, STATIC_TYPES.contains(f.getType()) ? 1 : 0, 1);
            } else {
                own++;
                boolean rows = f.getType().isArray() && f.getType().getComponentType().isArray();
                check.due("3 one dimension: " + name, rows ? 1 : 0, 0);
            }
        }
        check.due("11 fields of " + c.getSimpleName() + " " + own, own <= 20 ? 1 : 0, 1);
    }

    private static void parameters(Class<?> c) {
        for (Method m : c.getDeclaredMethods()) {
            fewEnough(m);
        }
        for (Constructor<?> k : c.getDeclaredConstructors()) {
            fewEnough(k);
        }
    }

    private static void fewEnough(Executable e) {
        check.due("11 parameters of " + e.getName(), e.getParameterCount() <= 7 ? 1 : 0, 1);
    }
}
