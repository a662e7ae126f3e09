import java.io.IOException;
import java.lang.reflect.Field;
import java.lang.reflect.Method;
import java.lang.reflect.Modifier;
import java.nio.file.Files;
import java.nio.file.Path;
import java.util.Arrays;
import java.util.Set;
import java.util.TreeSet;
import java.util.stream.Collectors;

/** The face of the class, and those rules of ../shared/LANGUAGE.md that can be seen from its text or its members. */
public final class FaceTest {
    private static final String FACE = """
        int feed(int,int,int,int,int)
        int truncate(int)
        int readText()
        int runScript()
        int errorCode()
        int errorPosition()
        int setting(int)
        int arc(int,int)
        int letter(int,int)
        int scratch(int,int)
        int flourishLetter(int,int)
        int partsAt(int)
        int heading(int)
        int turnAt(int)
        int farthestLeft()
        int room(int)
        int crowded()
        int tightest()
        int flourishIn(int)
        int stockLeft(int)
        int worth()
        double meanRoom()
        float filled()
        int danger(int)
        int slipsIf()
        int leastSharp()
        int leastGrowth()
        int mostWidth(int)
        int tightestIf()
        int spare()
        int engrave(int)
        int engraveAll()
        int mend(int)
        int polish(int)
        int sharpen(int)
        int setMargin(int)
        int setRadius(int,int)
        int setWidth(int,int)
        int report()
        int reportByte(int)
        int undo()
        int save()
        int restore()
        """;

    private static final String[] RULED_OUT = {
        "package ", "::", "finally", "synchronized", "assert ", "static {", "Exact(", "hashCode", "System.out", "getMessage"};

    private FaceTest() {
    }

    public static void main(String[] args) throws IOException {
        members();
        text();
        Checks.end();
    }

    private static void members() {
        Class<?> face = CurvedNames.class;
        Checks.due("public and final", Modifier.PUBLIC | Modifier.FINAL, face.getModifiers());
        Set<String> methods = new TreeSet<>();
        Set<String> names = new TreeSet<>();
        for (Method m : face.getDeclaredMethods()) {
            if (Modifier.isPublic(m.getModifiers())) {
                methods.add(row(m));
                names.add(m.getName());
            }
        }
        Checks.due("the face", new TreeSet<>(FACE.lines().toList()), methods);
        for (Method m : face.getDeclaredMethods()) {
            boolean isHidden = !Modifier.isPublic(m.getModifiers());
            Checks.due(m + " is no lambda", false, m.getName().startsWith("lambda$"));
            Checks.due(m + " is private", isHidden && !m.isSynthetic(), Modifier.isPrivate(m.getModifiers()));
            Checks.due(m + " bears no name of the face", false, isHidden && names.contains(m.getName()));
        }
        for (Field f : face.getDeclaredFields()) {
            Checks.due(f + " is private", !f.getName().equals("NONE"), Modifier.isPrivate(f.getModifiers()) || f.isSynthetic());
        }
        Checks.due("constructors", 1, face.getDeclaredConstructors().length);
        Checks.due("public ones, without parameters", 1, face.getConstructors().length);
        for (Class<?> inner : face.getDeclaredClasses()) {
            Checks.due(inner + " is hidden", 0, inner.getModifiers() & (Modifier.PUBLIC | Modifier.PROTECTED));
        }
    }

    private static String row(Method m) {
        String parameters = Arrays.stream(m.getParameterTypes()).map(Class::getSimpleName).collect(Collectors.joining(","));
        return m.getReturnType().getSimpleName() + " " + m.getName() + "(" + parameters + ")";
    }

    private static void text() throws IOException {
        String text = Files.readString(Path.of("src/main/java/CurvedNames.java"));
        for (String part : RULED_OUT) {
            Checks.due("the text has " + part, false, text.contains(part));
        }
    }
}
