/** Nets that several tests start from. */
final class Nets {
    private Nets() {
    }

    /** Boats 0 to count - 1 are on, each linked with the next. */
    static DriftNet chain(int count) {
        DriftNet net = new DriftNet();
        for (int i = 0; i < count; i++) {
            net.on(i);
        }
        for (int i = 1; i < count; i++) {
            net.link(i - 1, i, true);
        }
        return net;
    }

    /** Boats 0 to count - 1 are on, each linked with each. */
    static DriftNet mesh(int count) {
        DriftNet net = chain(count);
        for (int a = 0; a < count; a++) {
            for (int b = 0; b < a; b++) {
                net.link(a, b, true);
            }
        }
        return net;
    }

    /** One boat casts and another one hears every part: how many entries it took. */
    static int tell(DriftNet net, int from, boolean full, int to) {
        return hearAll(net, net.cast(from, full), to);
    }

    static int hearAll(DriftNet net, int cast, int to) {
        int taken = 0;
        for (int part = 0; part < net.parts(cast); part++) {
            taken += net.hear(cast, part, to, true);
        }
        return taken;
    }

    static void ticks(DriftNet net, int count) {
        for (int i = 0; i < count; i++) {
            net.tick();
        }
    }

    /** All that a cast tells: goal:number:metric, parts between bars. */
    static String rows(DriftNet net, int cast) {
        StringBuilder text = new StringBuilder();
        for (int part = 0; part < net.parts(cast); part++) {
            text.append(part == 0 ? "" : "|");
            for (int i = 0; i < 3; i++) {
                String row = row(net, cast, part, i);
                text.append(i == 0 || row.isEmpty() ? "" : " ").append(row);
            }
        }
        return text.toString();
    }

    private static String row(DriftNet net, int cast, int part, int i) {
        try {
            return net.entry(cast, part, i, 0) + ":" + net.entry(cast, part, i, 1) + ":" + net.entry(cast, part, i, 2);
        } catch (IndexOutOfBoundsException e) {
            return "";
        }
    }

    /** All seven answers of route. */
    static String routes(DriftNet net, int boat, int goal) {
        StringBuilder text = new StringBuilder();
        for (int what = 0; what < 7; what++) {
            text.append(what == 0 ? "" : " ").append(net.route(boat, goal, what));
        }
        return text.toString();
    }
}
