import java.io.IOException;
import java.lang.reflect.Constructor;
import java.lang.reflect.Executable;
import java.lang.reflect.Field;
import java.lang.reflect.Member;
import java.lang.reflect.Method;
import java.lang.reflect.Modifier;
import java.nio.file.Files;
import java.nio.file.Path;
import java.util.ArrayList;
import java.util.List;
import java.util.TreeSet;

/** The face is the document's, and the class keeps to rules of LANGUAGE.md that can be read off it. */
public final class FaceTest {
    private static final Checks CHECKS = new Checks();
    private static final Path DOCUMENT = Path.of("../shared/DOC.md");
    private static final Path SOURCE = Path.of("src/main/java/SpoolwrightYard.java");
    private static final int MOST_CLASSES = 12;
    private static final int MOST_FIELDS = 20;
    private static final String[] BANNED = {"->", "::", "Exact", "synchronized", "finally", "assert", "try {", "catch",
        "System.", "java.io", "java.net", "java.time", "Random", "Thread", "hashCode", "toString", "equals", "\" +",
        "static {", "package "};

    public static void main(String[] args) throws IOException {
        face();
        noOtherMembers();
        classesInside();
        source();
        CHECKS.end();
    }

    private static void face() throws IOException {
        TreeSet<String> due = new TreeSet<>();
        for (String line : Files.readAllLines(DOCUMENT)) {
            if (line.startsWith("    public ")) {
                due.add(plain(line));
            }
        }
        TreeSet<String> got = new TreeSet<>();
        for (Executable member : executables(SpoolwrightYard.class)) {
            if (Modifier.isPublic(member.getModifiers())) {
                got.add(plain(member.toString().replace("SpoolwrightYard.", "")));
            }
        }
        CHECKS.due("the face", got, due);
        CHECKS.due("the class is final", Modifier.isFinal(SpoolwrightYard.class.getModifiers()), true);
    }

    /** A signature without the names of its arguments and of packages, and without spaces. */
    private static String plain(String signature) {
        return signature.replaceAll("java\\.(lang|util)\\.", "").replaceAll("(int|char|boolean) \\w+([,)])", "$1$2")
            .replace(";", "").replace(" ", "");
    }

    private static List<Executable> executables(Class<?> owner) {
        List<Executable> all = new ArrayList<>(List.of(owner.getDeclaredMethods()));
        all.addAll(List.of(owner.getDeclaredConstructors()));
        return all;
    }

    private static void noOtherMembers() {
        List<Member> all = new ArrayList<>(executables(SpoolwrightYard.class));
        all.addAll(List.of(SpoolwrightYard.class.getDeclaredFields()));
        for (Member member : all) {
            boolean isOfTheFace = Modifier.isPublic(member.getModifiers()) && !(member instanceof Field);
            CHECKS.due(member + " is private", isOfTheFace || Modifier.isPrivate(member.getModifiers()), true);
        }
    }

    private static void classesInside() {
        Class<?>[] inside = SpoolwrightYard.class.getDeclaredClasses();
        CHECKS.due("few classes", inside.length < MOST_CLASSES, true);
        checkFields(SpoolwrightYard.class);
        TreeSet<String> names = new TreeSet<>();
        for (Method method : SpoolwrightYard.class.getDeclaredMethods()) {
            boolean isNew = names.add(method.getName());
            CHECKS.due(method + " has a name of its own", isNew, true);
        }
        for (Class<?> next : inside) {
            CHECKS.due(next + " is static", Modifier.isStatic(next.getModifiers()), true);
            CHECKS.due(next + " is not public", Modifier.isPublic(next.getModifiers()), false);
            checkFields(next);
            for (Method method : next.getDeclaredMethods()) {
                CHECKS.due(method + " has a name of its own", names.contains(method.getName())
                    && isOfTheFace(method.getName()), false);
            }
            for (Constructor<?> constructor : next.getDeclaredConstructors()) {
                CHECKS.due(constructor + " is not public", Modifier.isPublic(constructor.getModifiers()), false);
            }
        }
    }

    private static boolean isOfTheFace(String name) {
        for (Method method : SpoolwrightYard.class.getMethods()) {
            if (method.getDeclaringClass() == SpoolwrightYard.class && method.getName().equals(name)) {
                return true;
            }
        }
        return false;
    }

    private static void checkFields(Class<?> owner) {
        int count = 0;
        for (Field field : owner.getDeclaredFields()) {
            boolean isStatic = Modifier.isStatic(field.getModifiers());
            count += isStatic ? 0 : 1;
            CHECKS.due(field + " is a constant", !isStatic || Modifier.isFinal(field.getModifiers()), true);
        }
        CHECKS.due(owner + " has few fields", count <= MOST_FIELDS, true);
    }

    private static void source() throws IOException {
        String text = Files.readString(SOURCE);
        for (String banned : BANNED) {
            CHECKS.due("the source has " + banned, text.contains(banned), false);
        }
        CHECKS.due("the source is plain", text.chars().allMatch(c -> c >= 1 && c <= 127), true);
    }
}
