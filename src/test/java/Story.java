/**
 * All that calls can tell of a net, now and later, in texts. Each text is asked of a net of its own, since
 * all together would be more than 512 calls.
 */
final class Story {
    static final int COUNT = 17;

    private Story() {
    }

    static String of(DriftNet net, int index) {
        switch (index) {
            case 0:
                return routes(net, 0, 4);
            case 1:
                return routes(net, 4, 8);
            case 2:
                return pairs(net) + counts(net);
            case 3:
            case 4:
            case 5:
                return casts(net, index - 3);
            case 6:
                return news(net);
            case 7:
                return links(net);
            case 8:
                return moves(net);
            case 9:
                return sends(net);
            default:
                return afterTicks(net, index - 9);
        }
    }

    private static String routes(DriftNet net, int from, int to) {
        StringBuilder text = new StringBuilder();
        for (int boat = from; boat < to; boat++) {
            for (int goal = 0; goal < 8; goal++) {
                text.append(Nets.routes(net, boat, goal)).append("; ");
            }
        }
        return text.toString();
    }

    private static String pairs(DriftNet net) {
        StringBuilder text = new StringBuilder();
        for (int a = 0; a < 8; a++) {
            for (int b = 0; b < 8; b++) {
                text.append(net.two(a, b)).append(net.best(a, b)).append(' ');
            }
        }
        return text.toString();
    }

    private static String counts(DriftNet net) {
        StringBuilder text = new StringBuilder().append(net.clock());
        for (int boat = 0; boat < 8; boat++) {
            int b = boat;
            text.append(' ').append(net.waiting(b)).append(' ').append(net.circle(b));
            for (int k = 0; k < 3; k++) {
                int word = k;
                text.append(' ').append(Check.answer(() -> net.got(b, word)));
            }
        }
        return text.toString();
    }

    private static String casts(DriftNet net, int what) {
        StringBuilder text = new StringBuilder();
        for (int cast = 0; cast < 30; cast++) {
            int c = cast;
            String parts = Check.answer(() -> net.parts(c));
            text.append(parts).append(": ");
            int count = parts.startsWith("throws") ? 0 : Integer.parseInt(parts) * 3;
            for (int row = 0; row < count; row++) {
                int r = row;
                text.append(Check.answer(() -> net.entry(c, r / 3, r % 3, what))).append(' ');
            }
        }
        return text.toString();
    }

    private static String news(DriftNet net) {
        StringBuilder text = new StringBuilder();
        for (int boat = 0; boat < 8; boat++) {
            text.append(net.on(boat)).append(' ');
            int cast = net.cast(boat, false);
            text.append(cast).append(": ").append(Nets.rows(net, cast)).append("; ");
        }
        return text.toString();
    }

    private static String links(DriftNet net) {
        StringBuilder text = new StringBuilder();
        for (int a = 0; a < 8; a++) {
            text.append(net.off(a)).append(' ');
            for (int b = 0; b < a; b++) {
                text.append(net.link(a, b, true)).append(' ');
            }
        }
        return text.toString();
    }

    private static String moves(DriftNet net) {
        StringBuilder text = new StringBuilder();
        for (int round = 0; round < 3; round++) {
            for (int packet = 0; packet < 24; packet++) {
                int p = packet;
                text.append(Check.answer(() -> net.move(p))).append(' ');
            }
        }
        return text + counts(net);
    }

    private static String sends(DriftNet net) {
        StringBuilder text = new StringBuilder();
        for (int from = 0; from < 8; from++) {
            for (int goal = 0; goal < 8; goal++) {
                int f = from;
                int g = goal;
                text.append(Check.answer(() -> net.send(f, g, 1))).append(' ');
            }
        }
        return text.toString();
    }

    private static String afterTicks(DriftNet net, int count) {
        Nets.ticks(net, count);
        StringBuilder text = new StringBuilder();
        for (int boat = 0; boat < 8; boat++) {
            for (int goal = 0; goal < 8; goal++) {
                text.append(net.route(boat, goal, 2)).append('/').append(net.route(boat, goal, 3)).append(' ');
                text.append(net.two(boat, goal)).append(' ');
            }
        }
        return text.toString();
    }
}
