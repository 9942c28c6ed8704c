import java.util.ArrayDeque;
import java.util.ArrayList;
import java.util.HashMap;
import java.util.HashSet;
import java.util.List;
import java.util.Map;
import java.util.Set;
import java.util.TreeMap;

/** The document once more, written over maps and without any thought for room: what ModelTest compares with. */
public final class Model {
    private static final int INFINITE = 1_000_000;

    private record Told(int goal, int number, int metric) {
    }

    private record Message(int sender, List<List<Told>> parts) {
    }

    private record Way(int number, int metric, int next) {
    }

    private static final class Sailor {
        boolean on;
        final Map<Integer, Way> ways = new TreeMap<>();
        final Map<Integer, Told> shown = new TreeMap<>();
        final Map<Integer, Told> lastTold = new HashMap<>();
        final Map<Integer, Integer> heard = new TreeMap<>();
        final Map<Integer, Integer> first = new HashMap<>();
        final Map<Integer, Integer> mean = new HashMap<>();
        final Set<Integer> waits = new HashSet<>();
        final List<Integer> words = new ArrayList<>();
    }

    private static final class Parcel {
        int at;
        int goal;
        int word;
        Way bound;
    }

    private final List<Sailor> sailors = new ArrayList<>();
    private final Set<Set<Integer>> links = new HashSet<>();
    private final List<Message> messages = new ArrayList<>();
    private final Map<Integer, Parcel> parcels = new TreeMap<>();
    private int sent = 0;
    private int clock = 0;

    public Model() {
        for (int i = 0; i < 8; i++) {
            Sailor s = new Sailor();
            s.ways.put(i, new Way(0, 0, i));
            s.shown.put(i, new Told(i, 0, 0));
            sailors.add(s);
        }
    }

    private static void argument(boolean fine) {
        if (!fine) {
            throw new IllegalArgumentException();
        }
    }

    private static void state(boolean fine) {
        if (!fine) {
            throw new IllegalStateException();
        }
    }

    private static boolean boat(int b) {
        return 0 <= b && b <= 7;
    }

    private Message message(int cast) {
        argument(cast >= 0 && cast < messages.size() && messages.size() - cast <= 16);
        return messages.get(cast);
    }

    public boolean on(int b) {
        argument(boat(b));
        boolean was = sailors.get(b).on;
        sailors.get(b).on = true;
        return !was;
    }

    public boolean off(int b) {
        argument(boat(b));
        boolean was = sailors.get(b).on;
        sailors.get(b).on = false;
        return was;
    }

    public boolean link(int a, int b, boolean linked) {
        argument(boat(a) && boat(b) && a != b);
        return linked ? links.add(Set.of(a, b)) : links.remove(Set.of(a, b));
    }

    public int cast(int b, boolean full) {
        argument(boat(b));
        Sailor s = sailors.get(b);
        state(s.on);
        if (full) {
            int number = s.ways.get(b).number() + 2;
            s.ways.put(b, new Way(number, 0, b));
            s.shown.put(b, new Told(b, number, 0));
        }
        List<Told> rows = new ArrayList<>();
        for (Told t : s.shown.values()) {
            if (full || !t.equals(s.lastTold.get(t.goal()))) {
                rows.add(t);
            }
        }
        s.lastTold.putAll(s.shown);
        List<List<Told>> parts = new ArrayList<>();
        for (int i = 0; i < rows.size(); i += 3) {
            parts.add(List.copyOf(rows.subList(i, Math.min(i + 3, rows.size()))));
        }
        if (parts.isEmpty()) {
            parts.add(List.of());
        }
        messages.add(new Message(b, parts));
        return messages.size() - 1;
    }

    public int parts(int cast) {
        return message(cast).parts().size();
    }

    public int entry(int cast, int part, int i, int what) {
        Message m = message(cast);
        argument(part >= 0 && part < m.parts().size() && what >= 0 && what <= 2);
        Told t = m.parts().get(part).get(i);
        return what == 0 ? t.goal() : what == 1 ? t.number() : t.metric() == INFINITE ? -1 : t.metric();
    }

    public int hear(int cast, int part, int b, boolean late) {
        Message m = message(cast);
        argument(part >= 0 && part < m.parts().size() && boat(b));
        Sailor s = sailors.get(b);
        state(s.on && m.sender() != b && (late || links.contains(Set.of(b, m.sender()))));
        s.heard.put(m.sender(), clock);
        int taken = 0;
        for (Told t : m.parts().get(part)) {
            int metric = t.metric() == INFINITE ? INFINITE : t.metric() + 1;
            Way before = s.ways.get(t.goal());
            boolean better = before == null ? metric != INFINITE
                : t.number() > before.number() || t.number() == before.number() && metric < before.metric();
            if (t.goal() != b && better && (metric <= 15 || metric == INFINITE)) {
                taken++;
                take(s, t.goal(), new Way(t.number(), metric, metric == INFINITE ? -1 : m.sender()), before);
            }
        }
        return taken;
    }

    private void take(Sailor s, int goal, Way way, Way before) {
        s.ways.put(goal, way);
        if (before != null && before.number() == way.number()) {
            int sum = 3 * s.mean.getOrDefault(goal, 0) + 4 * (clock - s.first.get(goal));
            s.mean.put(goal, Math.floorDiv(sum, 4));
        } else if (way.metric() != INFINITE) {
            s.first.put(goal, clock);
        }
        Told shown = s.shown.get(goal);
        if (way.metric() == INFINITE || shown == null || way.metric() <= shown.metric()
            || s.mean.getOrDefault(goal, 0) == 0) {
            show(s, goal);
        } else {
            s.waits.add(goal);
        }
    }

    private void show(Sailor s, int goal) {
        Way way = s.ways.get(goal);
        s.shown.put(goal, new Told(goal, way.number(), way.metric()));
        s.waits.remove(goal);
    }

    public int tick() {
        clock++;
        for (Sailor s : sailors) {
            if (s.on) {
                for (int other : List.copyOf(s.heard.keySet())) {
                    if (clock - s.heard.get(other) >= 6) {
                        s.heard.remove(other);
                        lose(s, other);
                    }
                }
                for (int goal : List.copyOf(s.waits)) {
                    if (4 * (clock - s.first.get(goal)) >= 2 * s.mean.get(goal)) {
                        show(s, goal);
                    }
                }
            }
        }
        return clock;
    }

    private void lose(Sailor s, int other) {
        for (int goal : List.copyOf(s.ways.keySet())) {
            Way way = s.ways.get(goal);
            if (way.next() == other) {
                s.ways.put(goal, new Way(way.number() + 1, INFINITE, -1));
                show(s, goal);
            }
        }
    }

    public int route(int b, int goal, int what) {
        argument(boat(b) && boat(goal) && what >= 0 && what <= 6);
        Sailor s = sailors.get(b);
        Way way = s.ways.getOrDefault(goal, new Way(-1, INFINITE, -1));
        Told shown = s.shown.getOrDefault(goal, new Told(goal, -1, INFINITE));
        int[] answers = {way.next(), way.metric(), way.number(), shown.metric(), shown.number(),
            s.mean.getOrDefault(goal, 0), s.waits.contains(goal) ? 1 : 0};
        return answers[what] == INFINITE ? -1 : answers[what];
    }

    public boolean two(int a, int b) {
        argument(boat(a) && boat(b));
        return a != b && sailors.get(a).heard.containsKey(b) && sailors.get(b).heard.containsKey(a);
    }

    public int send(int from, int goal, int word) {
        argument(boat(from) && boat(goal) && from != goal);
        Sailor s = sailors.get(from);
        state(s.on && s.ways.containsKey(goal) && waiting(from) < 4 && parcels.size() < 16);
        Parcel p = new Parcel();
        p.at = from;
        p.goal = goal;
        p.word = word;
        parcels.put(sent, p);
        return sent++;
    }

    public int move(int packet) {
        argument(parcels.containsKey(packet));
        Parcel p = parcels.get(packet);
        state(sailors.get(p.at).on);
        Way here = sailors.get(p.at).ways.get(p.goal);
        if (here == null || here.metric() == INFINITE) {
            return p.at;
        }
        int y = here.next();
        Way there = sailors.get(y).ways.get(p.goal);
        boolean goes = sailors.get(y).on && links.contains(Set.of(p.at, y))
            && there != null && there.metric() != INFINITE
            && (p.bound == null || there.number() > p.bound.number()
                || there.number() == p.bound.number() && there.metric() < p.bound.metric())
            && (y == p.goal ? sailors.get(y).words.size() != 32 : waiting(y) != 4);
        if (!goes) {
            return p.at;
        }
        p.bound = there;
        p.at = y;
        if (y != p.goal) {
            return y;
        }
        parcels.remove(packet);
        sailors.get(y).words.add(p.word);
        return -1;
    }

    public int waiting(int b) {
        argument(boat(b));
        return (int) parcels.values().stream().filter(p -> p.at == b).count();
    }

    public int got(int b, int k) {
        argument(boat(b));
        return sailors.get(b).words.get(k);
    }

    public int circle(int goal) {
        argument(boat(goal));
        for (int start = 0; start < 8; start++) {
            List<Integer> trail = new ArrayList<>();
            int at = start;
            while (at != -1 && at != goal && !trail.contains(at)) {
                trail.add(at);
                Way way = sailors.get(at).ways.get(goal);
                at = way == null ? -1 : way.next();
            }
            if (at == start && at != goal) {
                return trail.size();
            }
        }
        return 0;
    }

    public int best(int a, int b) {
        argument(boat(a) && boat(b));
        Map<Integer, Integer> far = new HashMap<>();
        ArrayDeque<Integer> open = new ArrayDeque<>();
        if (sailors.get(a).on) {
            far.put(a, 0);
            open.add(a);
        }
        while (!open.isEmpty()) {
            int at = open.poll();
            for (int to = 0; to < 8; to++) {
                if (to != at && sailors.get(to).on && links.contains(Set.of(at, to)) && !far.containsKey(to)) {
                    far.put(to, far.get(at) + 1);
                    open.add(to);
                }
            }
        }
        return far.getOrDefault(b, -1);
    }

    public int clock() {
        return clock;
    }
}
