import java.io.IOException;
import java.lang.reflect.Constructor;
import java.lang.reflect.Field;
import java.lang.reflect.Method;
import java.lang.reflect.Modifier;
import java.nio.file.Files;
import java.nio.file.Path;
import java.util.Arrays;
import java.util.Set;
import java.util.TreeSet;

/** The class has the document's face, "The public face", and no other. */
final class FaceTest {
    private static final String[] FACE = {
        "int feed(int, int, int, int, int)", "int bus(int)", "int fault()", "int where()", "int about(int)",
        "int at(int)", "int link(int, int)", "int receiver(int, int)", "int named(long)", "int way(int, int, int)",
        "int waits(int, int)", "int credit(int, int)", "int port(int, int, int)", "int frame(int, int, int, int)",
        "int lost(int, int)", "int policed(int, int)", "int heard(int, int, int)", "int seen(int, int, int)",
        "int taken(int, int, int)", "long load(int, boolean)", "long delay(int, boolean)",
        "long burst(int, int, int, boolean)", "long bound(int, int, boolean)", "int keeps(int, int)",
        "int fullest()", "int leastGap(int)", "int through(int)", "int send(int, int)", "int babble(int, int)",
        "int down(int, int)", "int anew(int)", "int ticks(int)", "int willHear(int, int, int, int)",
        "int willLose(int, int, int)", "int quiet()", "boolean keep()", "boolean back()", "int silent(int)",
        "int size(int)", "int trouble()"};

    public static void main(String[] args) throws IOException {
        Check check = new Check("FaceTest");
        Class<?> face = GapLinks.class;
        check.due("NONE", -1, GapLinks.NONE);
        check.due("the class is public and final", Modifier.PUBLIC | Modifier.FINAL, face.getModifiers());
        Set<String> visible = new TreeSet<>();
        Set<String> hidden = new TreeSet<>();
        for (Method method : face.getDeclaredMethods()) {
            if (Modifier.isPrivate(method.getModifiers())) {
                hidden.add(method.getName());
            } else {
                check.due(method + " is public alone", Modifier.PUBLIC, method.getModifiers());
                visible.add(told(method));
            }
        }
        check.due("methods " + visible, true, visible.equals(new TreeSet<>(Arrays.asList(FACE))));
        for (String method : FACE) {
            String name = method.substring(method.indexOf(' ') + 1, method.indexOf('('));
            check.due("a private method is named " + name, false, hidden.contains(name));
        }
        for (Field field : face.getDeclaredFields()) {
            check.due(field + " is hidden", !field.getName().equals("NONE"), Modifier.isPrivate(field.getModifiers()));
        }
        Constructor<?>[] made = face.getDeclaredConstructors();
        check.due("constructors", 1, made.length);
        check.due("the constructor is public", Modifier.PUBLIC, made[0].getModifiers());
        for (Class<?> inside : face.getDeclaredClasses()) {
            check.due(inside + " is static", true, Modifier.isStatic(inside.getModifiers()));
            check.due(inside + " is public", false, Modifier.isPublic(inside.getModifiers()));
        }
        asToldInTheDocument(check);
        check.finish();
    }

    /** "The public face": each line of it stands in the source in the same words, and in the same order. */
    private static void asToldInTheDocument(Check check) throws IOException {
        String source = Files.readString(Path.of("src/main/java/GapLinks.java"));
        String document = Files.readString(Path.of("../shared/DOC.md"));
        int from = document.indexOf("```java");
        int lines = 0;
        int behind = 0;
        for (String line : document.substring(from, document.indexOf("```", from + 3)).split("\n")) {
            if (line.startsWith("    public ")) {
                boolean isConstant = line.contains("=");
                int at = source.indexOf(isConstant ? line : line.replace(";", " {"), behind);
                check.due("the source has, in its place," + line, true, at >= 0);
                behind = Math.max(behind, at);
                lines++;
            }
        }
        check.due("lines of the face", FACE.length + 2, lines);
    }

    private static String told(Method method) {
        String types = Arrays.toString(method.getParameterTypes());
        return method.getReturnType() + " " + method.getName() + "(" + types.substring(1, types.length() - 1) + ")";
    }
}
