import java.lang.reflect.Constructor;
import java.lang.reflect.Field;
import java.lang.reflect.Method;
import java.lang.reflect.Modifier;
import java.util.Arrays;
import java.util.List;
import java.util.NoSuchElementException;
import java.util.TreeSet;

/** The public face of the document, all of it and nothing else (and LANGUAGE.md, rule 1). */
public final class FaceTest {
    private static final List<String> FACE = List.of(
        "int company(int)",
        "int account(int)",
        "boolean hold(int, int, int)",
        "boolean rate(int, int, int)",
        "boolean post(int, int, int, long)",
        "boolean historic(int, int, long)",
        "long posted(int, int, int) throws",
        "int isBalanced(int)",
        "int controlled(int)",
        "long effective(int)",
        "int consolidate()",
        "long group(int) throws",
        "long trace(int, int, int) throws",
        "long minority(int) throws",
        "int openItems()",
        "long openItem(int, int) throws");

    private static String shape(Method m) {
        String types = Arrays.toString(m.getParameterTypes()).replace("[", "(").replace("]", ")");
        boolean tells = List.of(m.getExceptionTypes()).contains(NoSuchElementException.class);
        return m.getReturnType() + " " + m.getName() + types + (tells ? " throws" : "");
    }

    public static void main(String[] args) {
        Checks checks = new Checks();
        Class<ConsolidationDesk> desk = ConsolidationDesk.class;
        checks.due("the class is public and final",
            desk.getModifiers() & (Modifier.PUBLIC | Modifier.FINAL), Modifier.PUBLIC | Modifier.FINAL);
        TreeSet<String> publicNames = new TreeSet<>();
        TreeSet<String> shapes = new TreeSet<>();
        for (Method m : desk.getDeclaredMethods()) {
            if (!Modifier.isPrivate(m.getModifiers())) {
                shapes.add(shape(m));
                publicNames.add(m.getName());
                checks.due(m + " is public", Modifier.isPublic(m.getModifiers()), true);
                checks.due(m + " is of the object", Modifier.isStatic(m.getModifiers()), false);
            }
        }
        for (String wanted : FACE) {
            checks.due("the face has " + wanted, shapes.contains(wanted), true);
        }
        checks.due("methods of the face", shapes.size(), FACE.size());
        for (Method m : desk.getDeclaredMethods()) {
            if (Modifier.isPrivate(m.getModifiers())) {
                checks.due(m + " bears a public name", publicNames.contains(m.getName()), false);
            }
        }
        for (Field f : desk.getDeclaredFields()) {
            checks.due(f + " may be seen", Modifier.isPrivate(f.getModifiers()), !f.getName().equals("NONE"));
        }
        Constructor<?>[] constructors = desk.getDeclaredConstructors();
        checks.due("constructors", constructors.length, 1);
        checks.due("the constructor is public", Modifier.isPublic(constructors[0].getModifiers()), true);
        checks.due("the constructor's parameters", constructors[0].getParameterCount(), 0);
        checks.due("NONE", ConsolidationDesk.NONE, -1);
        checks.end();
    }
}
