import java.lang.reflect.InvocationTargetException;
import java.lang.reflect.Method;
import java.util.ArrayList;
import java.util.Arrays;
import java.util.HashMap;
import java.util.List;
import java.util.Map;
import java.util.Random;

/** Promises 1 to 18: long runs of drawn calls (always the same ones), each answered as the model does. */
public final class ModelTest {
    private static final int RUNS = 6000;
    private static final int CALLS = 512;
    private static final String[] ASKING = {"parts", "entry", "route", "two", "waiting", "got", "circle", "best", "clock"};

    private final Random random;
    private final int boats;
    private final int wrongOneIn;
    private final int tickWeight;
    private final int gossipOneIn;
    private final int offOneIn;
    private final int linksInTen;
    private final DriftNet net = new DriftNet();
    private final Model model = new Model();
    private final List<String> told = new ArrayList<>();
    private int casts = 0;
    private int packets = 0;

    private static final Map<String, Method> netMethods = methods(DriftNet.class);
    private static final Map<String, Method> modelMethods = methods(Model.class);
    private static final Map<String, Integer> seen = new HashMap<>();

    private ModelTest(int seed) {
        random = new Random(seed);
        boats = 2 + random.nextInt(7);
        wrongOneIn = random.nextBoolean() ? 12 : 60;
        tickWeight = 1 + random.nextInt(12);
        gossipOneIn = 2 + random.nextInt(6);
        offOneIn = 3 + random.nextInt(6);
        linksInTen = 3 + random.nextInt(8);
    }

    public static void main(String[] args) throws IllegalAccessException {
        int wrong = 0;
        for (int seed = 0; seed < RUNS && wrong < 3; seed++) {
            if (!new ModelTest(seed).run(seed)) {
                wrong++;
            }
        }
        wrong += unseen();
        System.out.println(RUNS + " runs of " + CALLS + " calls, " + wrong + " faults");
        if (wrong != 0) {
            System.exit(1);
        }
    }

    /** Runs that no longer reach what they are for would pass without testing it. */
    private static int unseen() {
        String[] due = {"cast throws.IllegalStateException", "hear throws.IllegalStateException", "hear 3",
            "send throws.IllegalStateException", "move throws.IllegalStateException", "move -1",
            "got throws.IndexOutOfBoundsException", "entry throws.IndexOutOfBoundsException", "parts 3",
            "parts throws.IllegalArgumentException", "waiting 4", "two 1", "best 4", "mean above 3", "waits", "stays"};
        int count = 0;
        for (String kind : due) {
            if (seen.getOrDefault(kind, 0) < 20) {
                count++;
                System.out.println("hardly ever drawn: " + kind);
            }
        }
        return count;
    }

    private static Map<String, Method> methods(Class<?> of) {
        Map<String, Method> found = new HashMap<>();
        for (Method method : of.getDeclaredMethods()) {
            found.put(method.getName(), method);
        }
        return found;
    }

    private boolean run(int seed) throws IllegalAccessException {
        boolean fine = true;
        for (int a = 0; a < boats && fine; a++) {
            fine = same(seed, "on", a);
            for (int b = 0; b < a && fine; b++) {
                fine = same(seed, "link", a, b, random.nextInt(10) < linksInTen);
            }
        }
        while (told.size() < CALLS && fine) {
            fine = random.nextInt(gossipOneIn) == 0 ? gossip(seed) : drawn(seed);
        }
        return fine;
    }

    /** One boat tells most others all it has to tell: drawn calls alone seldom let news travel far. */
    private boolean gossip(int seed) throws IllegalAccessException {
        int cast = casts;
        boolean fine = same(seed, "cast", random.nextInt(boats), random.nextInt(4) == 0);
        for (int boat = 0; boat < boats && fine && casts > cast && told.size() < CALLS - 8; boat++) {
            for (int part = 0; part < model.parts(cast) && fine && random.nextInt(4) != 0; part++) {
                fine = same(seed, "hear", cast, part, boat, random.nextBoolean());
                fine = fine && same(seed, "route", boat, settlingGoal(boat), random.nextInt(7));
            }
        }
        return fine;
    }

    /** A goal that the boat has a mean for, if there is one: only those can wait. */
    private int settlingGoal(int boat) {
        int start = random.nextInt(boats);
        for (int i = 0; i < boats; i++) {
            if (model.route(boat, (start + i) % boats, 5) > 0) {
                return (start + i) % boats;
            }
        }
        return start;
    }

    private boolean drawn(int seed) throws IllegalAccessException {
        int kind = random.nextInt(100 + tickWeight);
        if (kind < 3) {
            return same(seed, random.nextInt(offOneIn) == 0 ? "off" : "on", boat());
        }
        if (kind < 8) {
            return same(seed, "link", boat(), boat(), random.nextInt(10) < linksInTen);
        }
        if (kind < 16) {
            return same(seed, "cast", boat(), random.nextInt(3) == 0);
        }
        if (kind < 50) {
            return same(seed, "hear", cast(), part(), boat(), random.nextInt(3) != 0);
        }
        if (kind < 62) {
            return same(seed, "send", boat(), boat(), random.nextInt());
        }
        if (kind < 80) {
            return same(seed, "move", packet());
        }
        if (kind < 100) {
            return asked(seed);
        }
        return same(seed, "tick");
    }

    private boolean asked(int seed) throws IllegalAccessException {
        String name = ASKING[random.nextInt(ASKING.length)];
        switch (name) {
            case "parts":
                return same(seed, name, cast());
            case "entry":
                return same(seed, name, cast(), part(), random.nextInt(5) - 1, what(3));
            case "route":
                int boat = boat();
                boolean known = boat >= 0 && boat < boats && random.nextBoolean();
                return same(seed, name, boat, known ? settlingGoal(boat) : boat(), what(7));
            case "two":
            case "best":
                return same(seed, name, boat(), boat());
            case "got":
                return same(seed, name, boat(), random.nextInt(6) - 1);
            case "clock":
                return same(seed, name);
            default:
                return same(seed, name, boat());
        }
    }

    private boolean wrongNow() {
        return random.nextInt(wrongOneIn) == 0;
    }

    private int boat() {
        return wrongNow() ? (random.nextBoolean() ? -1 : 8) : random.nextInt(boats);
    }

    private int what(int count) {
        return wrongNow() ? (random.nextBoolean() ? -1 : count) : random.nextInt(count);
    }

    private int part() {
        return wrongNow() ? -1 : random.nextInt(1 + random.nextInt(3));
    }

    private int cast() {
        int back = wrongNow() ? random.nextInt(20) - 1 : random.nextInt(random.nextBoolean() ? 3 : 16);
        return casts - 1 - back;
    }

    private int packet() {
        return wrongNow() ? packets - random.nextInt(30) : packets - 1 - random.nextInt(random.nextBoolean() ? 4 : 12);
    }

    private boolean same(int seed, String name, Object... args) throws IllegalAccessException {
        String due = answer(modelMethods.get(name), model, args);
        String got = answer(netMethods.get(name), net, args);
        told.add(name + Arrays.toString(args) + " " + got);
        remember(name, due, args);
        if (got.equals(due)) {
            return true;
        }
        System.out.println("run " + seed + ": " + String.join(", ", told) + ", but due is " + due);
        return false;
    }

    private void remember(String name, String due, Object[] args) {
        boolean answered = !due.startsWith("throws");
        if (name.equals("cast") && answered) {
            casts++;
        }
        if (name.equals("send") && answered) {
            packets++;
        }
        seen.merge(name + " " + due, 1, Integer::sum);
        if (name.equals("route") && answered && args[2].equals(5) && Integer.parseInt(due) > 3) {
            seen.merge("mean above 3", 1, Integer::sum);
        }
        if (name.equals("route") && args[2].equals(6) && due.equals("1")) {
            seen.merge("waits", 1, Integer::sum);
        }
        if (name.equals("move") && answered && !due.equals("-1")) {
            seen.merge("stays", 1, Integer::sum);
        }
    }

    private static String answer(Method method, Object on, Object[] args) throws IllegalAccessException {
        try {
            Object answer = method.invoke(on, args);
            return answer.equals(true) ? "1" : answer.equals(false) ? "0" : answer.toString();
        } catch (InvocationTargetException e) {
            // The lists of the model throw subclasses that the document does not tell apart.
            boolean bounds = on instanceof Model && e.getCause() instanceof IndexOutOfBoundsException;
            return "throws." + (bounds ? "IndexOutOfBoundsException" : e.getCause().getClass().getSimpleName());
        }
    }
}
