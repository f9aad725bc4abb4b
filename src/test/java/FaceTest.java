import java.io.IOException;
import java.lang.reflect.Constructor;
import java.lang.reflect.Field;
import java.lang.reflect.Method;
import java.lang.reflect.Modifier;
import java.nio.file.Files;
import java.nio.file.Path;
import java.util.Arrays;
import java.util.List;
import java.util.Set;
import java.util.TreeSet;

/** The class's face, and the rules of LANGUAGE.md that can be looked at from outside. */
public final class FaceTest {
    private static final String[] FACE = {
        "int feed(long, int) IllegalArgumentException IllegalStateException",
        "int compile(int) IllegalArgumentException",
        "int place()",
        "int many(int, int) IllegalArgumentException",
        "int field(int, int, int, int) IllegalArgumentException",
        "int find(int) IllegalArgumentException",
        "int decode(int, int, int) IllegalArgumentException IllegalStateException",
        "int parse(int, int, int) IllegalArgumentException IllegalStateException",
        "int encode() IllegalStateException",
        "int print() IllegalStateException UnsupportedOperationException",
        "int check(int, int) IllegalArgumentException",
        "long out(int) IndexOutOfBoundsException",
        "int turn() IllegalStateException"};

    public static void main(String[] args) throws IOException {
        face();
        nothingElseIsVisible();
        classesInside();
        source();
        Expect.end();
    }

    private static String described(Method method) {
        StringBuilder text = new StringBuilder(method.getReturnType().getSimpleName() + " " + method.getName() + "(");
        Class<?>[] parameters = method.getParameterTypes();
        for (int k = 0; k < parameters.length; k++) {
            text.append(k == 0 ? "" : ", ").append(parameters[k].getSimpleName());
        }
        text.append(")");
        for (Class<?> thrown : method.getExceptionTypes()) {
            text.append(" ").append(thrown.getSimpleName());
        }
        return text.toString();
    }

    private static void face() {
        Set<String> due = new TreeSet<>(Arrays.asList(FACE));
        Set<String> got = new TreeSet<>();
        for (Method method : ProtoDesk.class.getDeclaredMethods()) {
            if (Modifier.isPublic(method.getModifiers())) {
                got.add(described(method));
            }
        }
        Expect.same("the public methods", due.toString(), got.toString());
        Constructor<?>[] constructors = ProtoDesk.class.getDeclaredConstructors();
        Expect.same("constructors", 1, constructors.length);
        Expect.same("its parameters", 0, constructors[0].getParameterCount());
        Expect.yes("it is public", Modifier.isPublic(constructors[0].getModifiers()));
        Expect.yes("the class is public and final", Modifier.isPublic(ProtoDesk.class.getModifiers())
                && Modifier.isFinal(ProtoDesk.class.getModifiers()));
    }

    private static void nothingElseIsVisible() {
        Set<String> open = new TreeSet<>();
        for (String line : FACE) {
            open.add(line.substring(line.indexOf(' ') + 1, line.indexOf('(')));
        }
        for (Method method : ProtoDesk.class.getDeclaredMethods()) {
            boolean closed = Modifier.isPrivate(method.getModifiers());
            Expect.yes(method + " is of the face or private", closed || Modifier.isPublic(method.getModifiers()));
        }
        for (Field field : ProtoDesk.class.getDeclaredFields()) {
            Expect.yes(field + " is private", Modifier.isPrivate(field.getModifiers()));
        }
        for (Class<?> inside : ProtoDesk.class.getDeclaredClasses()) {
            for (Method method : inside.getDeclaredMethods()) {
                Expect.yes(method + " has no name of the face", !open.contains(method.getName()));
            }
        }
    }

    private static void classesInside() {
        Class<?>[] inside = ProtoDesk.class.getDeclaredClasses();
        Expect.yes("at most twelve classes", inside.length + 1 <= 12);
        for (Class<?> one : inside) {
            int modifiers = one.getModifiers();
            Expect.yes(one + " is static and not open", Modifier.isStatic(modifiers)
                    && !Modifier.isPublic(modifiers) && !Modifier.isProtected(modifiers));
            int fields = 0;
            for (Field field : one.getDeclaredFields()) {
                boolean constant = Modifier.isStatic(field.getModifiers());
                fields += constant ? 0 : 1;
                Expect.yes(field + " is final if static", !constant || Modifier.isFinal(field.getModifiers()));
            }
            Expect.yes(one + " has at most twenty fields", fields <= 20);
            for (Method method : one.getDeclaredMethods()) {
                Expect.yes(method + " has at most seven parameters", method.getParameterCount() <= 7);
            }
        }
    }

    private static void source() throws IOException {
        List<String> lines = Files.readAllLines(Path.of("src/main/java/ProtoDesk.java"));
        String[] banned = {"import ", "try ", "catch", "finally", "->", "::", "synchronized", "assert ", "native ",
            "instanceof", ".equals(", ".hashCode(", ".toString(", "System.out", "double ", "float ", "package "};
        int begin = -1;
        for (int k = 0; k < lines.size(); k++) {
            String line = lines.get(k);
            String code = line.strip();
            if (!code.startsWith("*") && !code.startsWith("/") && !code.startsWith("\"")) {
                for (String word : banned) {
                    Expect.yes("line " + (k + 1) + " has no " + word, !line.contains(word));
                }
            }
            Expect.yes("line " + (k + 1) + " is not too long", line.length() <= 120);
            boolean member = line.matches("( {4}| {8})[a-zA-Z].*\\(.*\\{") && !code.startsWith("for ");
            begin = member ? k : begin;
            if (begin >= 0 && line.matches("( {4}| {8})}")) {
                Expect.yes("the method at line " + (begin + 1) + " is short", k - begin < 60);
                begin = -1;
            }
        }
    }
}
