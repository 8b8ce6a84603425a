import java.lang.reflect.Constructor;
import java.lang.reflect.Field;
import java.lang.reflect.Method;
import java.lang.reflect.Modifier;
import java.nio.file.Files;
import java.nio.file.Path;
import java.util.Set;
import java.util.StringJoiner;
import java.util.TreeSet;

/** The class has the face that stands in the document, each call with its exceptions, and no member beside it. */
public final class FaceTest {
    private final Check check = new Check();
    private final Doc doc = new Doc();

    public static void main(String[] args) throws Exception {
        FaceTest test = new FaceTest();
        test.members();
        test.theClass();
        test.source(Files.readString(Path.of("src/main/java/WaterGrid.java")));
        test.check.finish("the face");
    }

    /** Names of parameters are not to be seen in the class: they are compared in the source. */
    private void members() throws Exception {
        Set<String> due = new TreeSet<>();
        for (String member : doc.face()) due.add(member.replaceAll("(int|boolean) \\w+(?=[,)])", "$1"));
        Set<String> got = new TreeSet<>();
        for (Field f : WaterGrid.class.getDeclaredFields()) {
            if (!isHidden(f.getModifiers())) got.add(Modifier.toString(f.getModifiers()) + " " + f.getType().getName() + " " + f.getName() + " = " + f.get(null));
        }
        for (Constructor<?> c : WaterGrid.class.getDeclaredConstructors()) {
            if (!isHidden(c.getModifiers())) got.add("public WaterGrid" + listed(c.getParameterTypes(), c.getExceptionTypes()));
        }
        for (Method m : WaterGrid.class.getDeclaredMethods()) {
            if (isHidden(m.getModifiers())) continue;
            got.add(Modifier.toString(m.getModifiers()) + " " + m.getReturnType().getName() + " " + m.getName()
                    + listed(m.getParameterTypes(), m.getExceptionTypes()));
        }
        check.due("the face", got, due);
        check.due("its constant, its constructor, its methods", due.size(), 49);
        check.due("the constructor throws nothing", WaterGrid.class.getDeclaredConstructor().getExceptionTypes().length, 0);
    }

    private static boolean isHidden(int modifiers) { return Modifier.isPrivate(modifiers); }

    private static String listed(Class<?>[] parameters, Class<?>[] exceptions) {
        StringJoiner types = new StringJoiner(", ", "(", ")");
        for (Class<?> type : parameters) types.add(type.getSimpleName());
        StringJoiner thrown = new StringJoiner(", ", " throws ", "");
        for (Class<?> type : exceptions) thrown.add(type.getSimpleName());
        return types + (exceptions.length == 0 ? "" : thrown.toString());
    }

    private void theClass() {
        check.due("public and final", Modifier.toString(WaterGrid.class.getModifiers()), "public final");
        check.due("of nothing but Object", WaterGrid.class.getSuperclass(), Object.class);
        check.due("without an interface", WaterGrid.class.getInterfaces().length, 0);
        check.due("without a package", WaterGrid.class.getPackageName(), "");
        check.due("without a public class inside", WaterGrid.class.getClasses().length, 0);
        check.due("no member but its own is public", WaterGrid.class.getMethods().length, 47 + Object.class.getMethods().length);
    }

    private void source(String source) {
        String flat = source.replaceAll("\\s+", " ");
        for (String member : doc.face()) check.due("in the source stands " + member, flat.contains(member), true);
    }
}
