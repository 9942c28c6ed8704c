import java.util.HashMap;
import java.util.Map;

/**
 * A net that keeps twelve casts, each telling one row of goal 0. Whole ones: 2/1, 2/2, 2/3, 4/1 .. 6/3, by
 * the number and the metric that they have for who hears them, cast by boats 0, 1 and 2. Broken ones: 3/B,
 * 5/B and 7/B, cast by boat 1. Boat 7 is on, linked with none, and hears them late; the clock is 18.
 */
final class Tales {
    static final int CLOCK = 18;

    final DriftNet net = Nets.chain(3);
    private final Map<String, Integer> casts = new HashMap<>();

    Tales() {
        // What they have of themselves is told once before, so that it stands in no later cast.
        net.cast(1, false);
        net.cast(2, false);
        for (int number = 2; number <= 6; number += 2) {
            keep(number + "/1", net.cast(0, true), 1);
            keep(number + "/2", net.cast(1, false), 2);
            keep(number + "/3", net.cast(2, false), 3);
            Nets.ticks(net, 6);
            keep(number + 1 + "/B", net.cast(1, false), 3);
        }
        net.on(7);
    }

    private void keep(String name, int cast, int hearer) {
        casts.put(name, cast);
        if (hearer < 3) {
            net.hear(cast, 0, hearer, false);
        }
    }

    int cast(String name) {
        return casts.get(name);
    }

    /** Boat 7 hears one: how many entries it took. */
    int hear(String name) {
        return hear(name, 7);
    }

    int hear(String name, int boat) {
        return net.hear(casts.get(name), 0, boat, true);
    }

    /** Ticks, through which boat 7 goes on hearing the same one, so as not to forget its sender. */
    void ticksHearing(int count, String name) {
        for (int i = 0; i < count; i++) {
            net.tick();
            hear(name);
        }
    }

    /** All that route answers of goal 0 at boat 7. */
    String known() {
        return Nets.routes(net, 7, 0);
    }
}
