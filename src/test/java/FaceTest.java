import java.lang.reflect.Field;
import java.lang.reflect.Method;
import java.lang.reflect.Modifier;
import java.util.Arrays;
import java.util.HashSet;
import java.util.List;
import java.util.Set;
import java.util.TreeSet;

/** The public face is the document's, and no other name is open. */
public final class FaceTest {
    private static final Check check = new Check();
    private static final List<String> FACE = List.of(
        "type(long,int)", "letter()", "choices(int)", "cost(int,int,int)", "mended(int,int)",
        "copyOf(int,int,int)", "choice(int,int)", "burn(int)", "reads(int,int)", "costOf(int)",
        "set(int,int)", "count(int)", "print(int,int)", "printed()", "could(int)", "maker(int)",
        "blamed(int)", "unjust(int)", "holds(int)", "breach(int,int)", "fewest(int)", "more(int,int)",
        "score(int)", "wrong(int,int)", "bar(int)", "put(int,int)", "putAll()", "hidden(int,int)",
        "keep()", "past(int,int)", "image()", "restore()", "sheet(int,int,int)", "drop(int)",
        "item(int,int,int,int)", "copy(int,int,int,int,int)");

    public static void main(String[] args) throws Exception {
        classItself();
        methods();
        constants();
        privateNames();
        check.end();
    }

    private static void classItself() throws Exception {
        int marks = CommaCopies.class.getModifiers();
        check.due("public final class", Modifier.isPublic(marks) && Modifier.isFinal(marks) ? 1 : 0, 1);
        check.due("no package", CommaCopies.class.getPackageName().isEmpty() ? 1 : 0, 1);
        check.due("above it", CommaCopies.class.getSuperclass() == Object.class ? 1 : 0, 1);
        check.due("beside it", CommaCopies.class.getInterfaces().length, 0);
        marks = CommaCopies.class.getDeclaredConstructor().getModifiers();
        check.due("public constructor", Modifier.isPublic(marks) ? 1 : 0, 1);
    }

    private static String told(Method m) {
        StringBuilder t = new StringBuilder(m.getName()).append('(');
        for (int k = 0; k < m.getParameterCount(); k++) {
            t.append(k == 0 ? "" : ",").append(m.getParameterTypes()[k].getName());
        }
        return t.append(')').toString();
    }

    private static void methods() {
        Set<String> open = new TreeSet<>();
        for (Method m : CommaCopies.class.getDeclaredMethods()) {
            if (!Modifier.isPrivate(m.getModifiers())) {
                open.add(told(m));
                check.due(m.getName() + " is public", Modifier.isPublic(m.getModifiers()) ? 1 : 0, 1);
                check.due(m.getName() + " is of an object", Modifier.isStatic(m.getModifiers()) ? 1 : 0, 0);
                check.due(m.getName() + " tells of no exception", m.getExceptionTypes().length, 0);
                check.due(m.getName() + " answers an int", m.getReturnType() == int.class ? 1 : 0, 1);
            }
        }
        check.due("methods " + open, open.equals(new TreeSet<>(FACE)) ? 1 : 0, 1);
        check.due("constructors", CommaCopies.class.getDeclaredConstructors().length, 1);
    }

    private static void constants() throws Exception {
        List<String> names = Arrays.asList("BAD", "NOT", "FULL", "NONE", "NULL", "CAST", "INDEX", "SIZE");
        int[] values = {-1, -2, -3, -4, -11, -12, -13, -14};
        for (int k = 0; k < values.length; k++) {
            check.due(names.get(k), CommaCopies.class.getField(names.get(k)).getInt(null), values[k]);
        }
        for (Field f : CommaCopies.class.getDeclaredFields()) {
            boolean open = !Modifier.isPrivate(f.getModifiers());
            check.due("field " + f.getName(), open ? 1 : 0, names.contains(f.getName()) ? 1 : 0);
            int constant = Modifier.PUBLIC | Modifier.STATIC | Modifier.FINAL;
            check.due("constant " + f.getName(), !open || f.getModifiers() == constant && f.getType() == int.class ? 1 : 0, 1);
        }
    }

    /** LANGUAGE.md, rule 1: no private method bears the name of a public one. */
    private static void privateNames() {
        Set<String> faceNames = new HashSet<>();
        for (String f : FACE) {
            faceNames.add(f.substring(0, f.indexOf('(')));
        }
        for (Class<?> inside : CommaCopies.class.getDeclaredClasses()) {
            check.due(inside.getName() + " is static", Modifier.isStatic(inside.getModifiers()) ? 1 : 0, 1);
            for (Method m : inside.getDeclaredMethods()) {
                check.due(inside.getName() + "." + m.getName(), faceNames.contains(m.getName()) ? 1 : 0, 0);
            }
        }
    }
}
