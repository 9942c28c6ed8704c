import java.io.IOException;
import java.lang.reflect.Method;
import java.lang.reflect.Modifier;
import java.nio.file.Files;
import java.nio.file.Path;
import java.util.ArrayList;
import java.util.List;

/** README.md: each call of its example answers what stands beside it, and its table has every call. */
public final class ReadmeTest {
    private static final Check check = new Check();

    public static void main(String[] args) throws IOException {
        List<String> lines = Files.readAllLines(Path.of("README.md"));
        exampleAnswers(lines);
        everyCallIsThere(lines);
        check.end();
    }

    private static void exampleAnswers(List<String> lines) {
        List<String> told = example(lines);
        List<String> due = new ArrayList<>();
        DriftNet net = new DriftNet();
        due.add("net.on(0) " + net.on(0));
        due.add("net.on(1) " + net.on(1));
        due.add("net.link(0, 1, true) " + net.link(0, 1, true));
        int cast = net.cast(0, true);
        due.add("net.cast(0, true) " + cast);
        due.add("net.hear(cast, 0, 1, false) " + net.hear(cast, 0, 1, false));
        due.add("net.route(1, 0, 0) " + net.route(1, 0, 0));
        int packet = net.send(1, 0, 77);
        due.add("net.send(1, 0, 77) " + packet);
        due.add("net.move(packet) " + net.move(packet));
        due.add("net.got(0, 0) " + net.got(0, 0));
        due.add("net.tick() " + net.tick());
        check.same("the example", String.join("; ", told), String.join("; ", due));
    }

    /** Of each line of the example with a call: the call, and the answer that begins the comment. */
    private static List<String> example(List<String> lines) {
        List<String> told = new ArrayList<>();
        for (String line : lines) {
            int start = line.indexOf("net.");
            int end = line.indexOf(";");
            int comment = line.indexOf("// ");
            if (!line.startsWith("|") && start >= 0 && end > start && comment > end) {
                String answer = line.substring(comment + 3).split(":")[0];
                told.add(line.substring(start, end) + " " + answer);
            }
        }
        return told;
    }

    private static void everyCallIsThere(List<String> lines) {
        for (Method method : DriftNet.class.getDeclaredMethods()) {
            if (Modifier.isPublic(method.getModifiers())) {
                check.same(method.getName() + " is in the table", hasRow(lines, method), true);
            }
        }
    }

    private static boolean hasRow(List<String> lines, Method method) {
        for (String line : lines) {
            String calls = line.startsWith("| `") ? line.substring(0, line.indexOf("|", 1)) : "";
            int at = calls.indexOf("`" + method.getName() + "(");
            if (at >= 0) {
                String inside = calls.substring(calls.indexOf("(", at) + 1, calls.indexOf(")", at));
                int count = inside.isEmpty() ? 0 : inside.split(",").length;
                return count == method.getParameterCount();
            }
        }
        return false;
    }
}
