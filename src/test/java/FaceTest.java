import java.io.IOException;
import java.lang.reflect.Constructor;
import java.lang.reflect.Field;
import java.lang.reflect.Method;
import java.lang.reflect.Modifier;
import java.nio.file.Files;
import java.nio.file.Path;
import java.util.ArrayList;
import java.util.Arrays;
import java.util.HashSet;
import java.util.List;
import java.util.Set;
import java.util.regex.Pattern;

/** The public face as the document has it, and those rules of LANGUAGE.md that a look at the file can tell. */
public final class FaceTest {
    private static final Check check = new Check();
    private static final String[] FACE = {
        "boolean on(int) IllegalArgumentException",
        "boolean off(int) IllegalArgumentException",
        "boolean link(int,int,boolean) IllegalArgumentException",
        "int cast(int,boolean) IllegalArgumentException IllegalStateException",
        "int parts(int) IllegalArgumentException",
        "int entry(int,int,int,int) IllegalArgumentException IndexOutOfBoundsException",
        "int hear(int,int,int,boolean) IllegalArgumentException IllegalStateException",
        "int tick()",
        "int route(int,int,int) IllegalArgumentException",
        "boolean two(int,int) IllegalArgumentException",
        "int send(int,int,int) IllegalArgumentException IllegalStateException",
        "int move(int) IllegalArgumentException IllegalStateException",
        "int waiting(int) IllegalArgumentException",
        "int got(int,int) IllegalArgumentException IndexOutOfBoundsException",
        "int circle(int) IllegalArgumentException",
        "int best(int,int) IllegalArgumentException",
        "int clock()",
    };
    private static final String[] BANNED = {
        "import", "package", "->", "::", "\\bfinally\\b", "\\bsynchronized\\b", "\\bassert\\b", "\\btry\\b",
        "\\bprotected\\b", "\\bSystem\\.(?!arraycopy)", "\\bThread\\b", "\\bRandom\\b", "Exact\\(", "while \\(true\\)",
        "\\bstatic \\{", "\\bvar\\b", "\" \\+", "\\+ \"", "\\bcatch\\b", "\\bequals\\b",
        "\\bhashCode\\b", "\\btoString\\b", "\\bMath\\.(?!floorMod|min)",
    };

    public static void main(String[] args) throws IOException {
        face();
        nothingElseIsVisible();
        classesInside();
        sizes();
        words();
        check.end();
    }

    private static void face() {
        Set<String> found = new HashSet<>();
        for (Method method : DriftNet.class.getDeclaredMethods()) {
            if (Modifier.isPublic(method.getModifiers())) {
                found.add(told(method));
            }
        }
        check.same("the public methods", sorted(found), sorted(Set.of(FACE)));
        check.same("final", Modifier.isFinal(DriftNet.class.getModifiers()), true);
        Constructor<?>[] made = DriftNet.class.getDeclaredConstructors();
        check.same("constructors", made.length, 1);
        check.same("its parameters", made[0].getParameterCount(), 0);
        check.same("public", Modifier.isPublic(made[0].getModifiers()), true);
    }

    private static String told(Method method) {
        StringBuilder text = new StringBuilder();
        text.append(method.getReturnType().getSimpleName()).append(' ').append(method.getName()).append('(');
        List<String> types = new ArrayList<>();
        for (Class<?> type : method.getParameterTypes()) {
            types.add(type.getSimpleName());
        }
        text.append(String.join(",", types)).append(')');
        for (Class<?> thrown : method.getExceptionTypes()) {
            text.append(' ').append(thrown.getSimpleName());
        }
        return text.toString();
    }

    private static String sorted(Set<String> texts) {
        String[] row = texts.toArray(new String[0]);
        Arrays.sort(row);
        return String.join("; ", row);
    }

    private static void nothingElseIsVisible() {
        Set<String> publicNames = new HashSet<>();
        for (Method method : DriftNet.class.getDeclaredMethods()) {
            if (Modifier.isPublic(method.getModifiers())) {
                publicNames.add(method.getName());
            }
        }
        for (Method method : DriftNet.class.getDeclaredMethods()) {
            if (!Modifier.isPublic(method.getModifiers())) {
                check.same(method.getName() + " is private", Modifier.isPrivate(method.getModifiers()), true);
                check.same(method.getName() + " has a name of its own", publicNames.contains(method.getName()), false);
            }
        }
        for (Field field : DriftNet.class.getDeclaredFields()) {
            check.same(field.getName() + " is private", Modifier.isPrivate(field.getModifiers()), true);
            noStaticState(field);
        }
    }

    private static void classesInside() {
        Class<?>[] inside = DriftNet.class.getDeclaredClasses();
        check.same("at most twelve classes", inside.length < 12, true);
        for (Class<?> one : inside) {
            check.same(one.getName() + " is static", Modifier.isStatic(one.getModifiers()), true);
            check.same(one.getName() + " is not public", Modifier.isPublic(one.getModifiers()), false);
            for (Field field : one.getDeclaredFields()) {
                noStaticState(field);
            }
        }
    }

    private static void noStaticState(Field field) {
        int modifiers = field.getModifiers();
        check.same(field.getName() + " is no static state",
            Modifier.isStatic(modifiers) && !Modifier.isFinal(modifiers), false);
    }

    /** Rule 11: at most seven parameters, some twenty fields beside constants, methods of some sixty lines. */
    private static void sizes() throws IOException {
        List<Class<?>> all = new ArrayList<>(List.of(DriftNet.class.getDeclaredClasses()));
        all.add(DriftNet.class);
        for (Class<?> one : all) {
            int fields = 0;
            for (Field field : one.getDeclaredFields()) {
                fields += Modifier.isStatic(field.getModifiers()) ? 0 : 1;
            }
            check.same(one.getName() + " has few fields", fields <= 20, true);
            for (Method method : one.getDeclaredMethods()) {
                check.same(method.getName() + " takes few parameters", method.getParameterCount() <= 7, true);
            }
        }
        check.same("the longest method is short", longestMethod() <= 60, true);
    }

    /** The file has an empty line between methods and none in them, so the longest run of lines is at least as long as any. */
    private static int longestMethod() throws IOException {
        int longest = 0;
        int run = 0;
        for (String line : Files.readAllLines(Path.of("src/main/java/DriftNet.java"))) {
            run = line.isBlank() ? 0 : run + 1;
            longest = Math.max(longest, run);
        }
        return longest;
    }

    private static void words() throws IOException {
        String source = Files.readString(Path.of("src/main/java/DriftNet.java"));
        for (String banned : BANNED) {
            check.same("the file has " + banned, Pattern.compile(banned).matcher(source).find(), false);
        }
    }
}
