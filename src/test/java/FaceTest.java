import java.io.IOException;
import java.lang.reflect.Constructor;
import java.lang.reflect.Field;
import java.lang.reflect.Method;
import java.lang.reflect.Modifier;
import java.nio.file.Files;
import java.nio.file.Path;
import java.util.Arrays;
import java.util.Set;
import java.util.TreeSet;
import java.util.stream.Collectors;

/** The face of the class, and those rules of ../shared/LANGUAGE.md that can be seen from its text or its members. */
public final class FaceTest {
    private static final String FACE = """
        int feed(int,int,int,int,int) IllegalStateException
        int truncate(int) IllegalArgumentException
        int readText() IllegalArgumentException
        int runScript() IllegalArgumentException
        int errorCode()
        int errorPosition()
        int setting(int) IllegalArgumentException
        int arc(int,int) IndexOutOfBoundsException IllegalArgumentException
        int letter(int,int) IndexOutOfBoundsException IllegalArgumentException
        int scratch(int,int) IndexOutOfBoundsException IllegalArgumentException
        int flourishLetter(int,int) IndexOutOfBoundsException
        int partsAt(int) IllegalArgumentException
        int heading(int) IllegalArgumentException
        int turnAt(int) IllegalArgumentException
        int farthestLeft()
        int room(int) IndexOutOfBoundsException
        int crowded()
        int tightest()
        int flourishIn(int) IndexOutOfBoundsException
        int stockLeft(int) IndexOutOfBoundsException
        int worth()
        double meanRoom()
        float filled()
        int danger(int) IndexOutOfBoundsException
        int slipsIf()
        int leastSharp()
        int leastGrowth()
        int mostWidth(int) IllegalArgumentException
        int tightestIf() IllegalArgumentException
        int spare()
        int engrave(int) IndexOutOfBoundsException IllegalStateException
        int engraveAll() IllegalStateException
        int mend(int) IndexOutOfBoundsException IllegalStateException
        int polish(int) IndexOutOfBoundsException IllegalStateException
        int sharpen(int) IllegalArgumentException
        int setMargin(int) IllegalArgumentException
        int setRadius(int,int) IndexOutOfBoundsException IllegalArgumentException
        int setWidth(int,int) IllegalArgumentException
        int report()
        int reportByte(int) IndexOutOfBoundsException
        int undo()
        int save()
        int restore() IllegalStateException
        """;

    private static final String[] NOT_IN_THE_TEXT = {
        "import ", "->", "::", "finally", "catch", "synchronized", "assert ", "static {", "@Override", "System.out",
        "Exact(", "hashCode", "toString", "var ", "package "};

    private FaceTest() {
    }

    public static void main(String[] args) throws IOException {
        members();
        text();
        Checks.end();
    }

    private static void members() {
        Class<?> face = CurvedNames.class;
        Checks.due("final", true, Modifier.isFinal(face.getModifiers()));
        Set<String> methods = new TreeSet<>();
        Set<String> hidden = new TreeSet<>();
        for (Method m : face.getDeclaredMethods()) {
            if (Modifier.isPublic(m.getModifiers())) {
                methods.add(row(m));
            } else {
                hidden.add(m.getName());
                Checks.due(m.getName() + " is private", true, Modifier.isPrivate(m.getModifiers()));
            }
        }
        Checks.due("the face", new TreeSet<>(FACE.lines().toList()), methods);
        for (String row : methods) {
            String name = row.replaceAll("^\\w+ |\\(.*", "");
            Checks.due("private methods bear no name of the face: " + name, false, hidden.contains(name));
        }
        for (Field f : face.getDeclaredFields()) {
            boolean isPrivate = Modifier.isPrivate(f.getModifiers());
            Checks.due("field " + f.getName(), !f.getName().equals("NONE"), isPrivate);
        }
        Constructor<?>[] constructors = face.getDeclaredConstructors();
        Checks.due("constructors", 1, constructors.length);
        Checks.due("its parameters", 0, constructors[0].getParameterCount());
        for (Class<?> inner : face.getDeclaredClasses()) {
            Checks.due(inner + " is private", true, Modifier.isPrivate(inner.getModifiers()));
            Checks.due(inner + " is static", true, Modifier.isStatic(inner.getModifiers()));
        }
        Checks.due("some twelve classes", true, face.getDeclaredClasses().length <= 12);
    }

    private static String row(Method m) {
        String parameters = Arrays.stream(m.getParameterTypes()).map(Class::getSimpleName).collect(Collectors.joining(","));
        String exceptions = Arrays.stream(m.getExceptionTypes()).map(c -> " " + c.getSimpleName()).collect(Collectors.joining());
        return m.getReturnType().getSimpleName() + " " + m.getName() + "(" + parameters + ")" + exceptions;
    }

    private static void text() throws IOException {
        String text = Files.readString(Path.of("src/main/java/CurvedNames.java"));
        for (String part : NOT_IN_THE_TEXT) {
            Checks.due("the text has " + part, false, text.contains(part));
        }
        Checks.due("its signs are of ASCII", true, text.chars().allMatch(c -> c < 128));
    }
}
