import java.lang.reflect.Constructor;
import java.lang.reflect.Field;
import java.lang.reflect.Method;
import java.lang.reflect.Modifier;
import java.util.ArrayList;
import java.util.Arrays;
import java.util.List;
import java.util.NoSuchElementException;
import java.util.TreeSet;

/** The document's public face, and the rules of LANGUAGE.md that the compiled classes show. */
public final class FaceTest {
    private static final String[] FACE = {
        "int routine()", "int block(int, int, int)", "int edge(int, int, int, int, boolean)",
        "boolean guess(int, int, int)", "int finish(int)", "int plan(int)", "long look(int, int)",
        "long ofEdge(int, int, int)", "long ofBlock(int, int, int)", "long solve(int, int)",
        "int ring(int, int, int)", "boolean begin(int)", "int go(int, int)", "int run(int)",
        "int way(int, long, int)", "int along(int, long, int)", "long table(int, int, int)",
        "long told(int, int)", "boolean blur(int, int, int)", "long mend(int)"};

    public static void main(String[] args) {
        TreeSet<String> due = new TreeSet<>(Arrays.asList(FACE));
        TreeSet<String> there = new TreeSet<>();
        TreeSet<String> names = new TreeSet<>();
        for (Method m : CounterPlacer.class.getDeclaredMethods()) {
            if (!Modifier.isPrivate(m.getModifiers())) {
                there.add(told(m));
                names.add(m.getName());
            }
        }
        System.out.println(there.equals(due) ? "the methods are those of the face" : there + " is not " + due);
        Check.due("methods of the face", there.equals(due), true);
        Check.due("public and final", CounterPlacer.class.getModifiers(), Modifier.PUBLIC | Modifier.FINAL);
        constructors();
        fields();
        exceptions();
        List<Class<?>> all = allClasses();
        Check.due("at most twelve classes", all.size() <= 12, true);
        for (Class<?> c : all) {
            insideRules(c, names);
        }
        Check.end("FaceTest");
    }

    private static String told(Method m) {
        StringBuilder text = new StringBuilder(m.getReturnType() + " " + m.getName() + "(");
        for (int i = 0; i < m.getParameterTypes().length; i++) {
            text.append(i == 0 ? "" : ", ").append(m.getParameterTypes()[i]);
        }
        return text.append(")").toString();
    }

    private static void constructors() {
        Constructor<?>[] all = CounterPlacer.class.getDeclaredConstructors();
        Check.due("constructors", all.length, 1);
        Check.due("its parameters", all[0].getParameterCount(), 0);
        Check.due("it is public", all[0].getModifiers(), Modifier.PUBLIC);
    }

    private static void fields() {
        for (Field f : CounterPlacer.class.getDeclaredFields()) {
            boolean isNone = f.getName().equals("NONE");
            Check.due("field " + f.getName() + " is private", Modifier.isPrivate(f.getModifiers()), !isNone);
            if (isNone) {
                Check.due("NONE", f.getModifiers(), Modifier.PUBLIC | Modifier.STATIC | Modifier.FINAL);
                Check.due("NONE is an int", f.getType() == int.class, true);
                Check.due("NONE", CounterPlacer.NONE, -1);
            }
        }
    }

    private static void exceptions() {
        for (Method m : CounterPlacer.class.getMethods()) {
            if (m.getDeclaringClass() == CounterPlacer.class) {
                boolean looks = List.of("look", "ofEdge", "ofBlock").contains(m.getName());
                List<Class<?>> due = looks ? List.of(IndexOutOfBoundsException.class, NoSuchElementException.class) : List.of();
                Check.due("exceptions of " + m.getName(), Arrays.asList(m.getExceptionTypes()).equals(due), true);
            }
        }
    }

    private static List<Class<?>> allClasses() {
        List<Class<?>> all = new ArrayList<>();
        all.add(CounterPlacer.class);
        for (int i = 0; i < all.size(); i++) {
            all.addAll(Arrays.asList(all.get(i).getDeclaredClasses()));
        }
        return all;
    }

    private static void insideRules(Class<?> c, TreeSet<String> names) {
        int fields = 0;
        for (Field f : c.getDeclaredFields()) {
            boolean isStatic = Modifier.isStatic(f.getModifiers());
            fields += isStatic ? 0 : 1;
            Check.due(c + "." + f.getName() + " is final if static", !isStatic || Modifier.isFinal(f.getModifiers()), true);
        }
        Check.due(c + " has at most twenty fields", fields <= 20, true);
        for (Method m : c.getDeclaredMethods()) {
            Check.due(c + "." + m.getName() + " has at most seven parameters", m.getParameterCount() <= 7, true);
            boolean hidden = c != CounterPlacer.class || Modifier.isPrivate(m.getModifiers());
            Check.due(c + "." + m.getName() + " has no name of the face", hidden && names.contains(m.getName()), false);
        }
        if (c != CounterPlacer.class) {
            Check.due(c + " is static", Modifier.isStatic(c.getModifiers()), true);
            Check.due(c + " is hidden", c.getModifiers() & (Modifier.PUBLIC | Modifier.PROTECTED), 0);
        }
    }
}
