/** Promises 1 to 4, 17 and 18: a new object, on, off, link, best and clock. */
public final class BoatsTest {
    private static final Check check = new Check();

    public static void main(String[] args) {
        newObject();
        onAndOff();
        onKeepsEntries();
        links();
        bestWays();
        bestWrong();
        clocks();
        check.end();
    }

    private static void newObject() {
        DriftNet net = new DriftNet();
        check.same("new clock", net.clock(), 0);
        for (int boat = 0; boat < 8; boat++) {
            int b = boat;
            check.illegalState("new boat casts", () -> net.cast(b, true));
            check.same("new boat waiting", net.waiting(b), 0);
            check.same("new boat's entry for itself", Nets.routes(net, b, b), b + " 0 0 0 0 0 0");
            check.same("new boat's entry for another", Nets.routes(net, b, (b + 1) % 8), "-1 -1 -1 -1 -1 0 0");
        }
        for (int boat = 0; boat < 8; boat++) {
            check.same("new boat is off", net.off(boat), false);
            net.on(boat);
        }
        for (int a = 0; a < 8; a++) {
            for (int b = 0; b < 8; b++) {
                check.same("new boats are linked", net.best(a, b), a == b ? 0 : -1);
            }
        }
        check.illegalArgument("no cast yet", () -> net.parts(0));
        check.illegalArgument("no packet yet", () -> net.move(0));
    }

    private static void onAndOff() {
        DriftNet net = new DriftNet();
        int[] none = {-1, 8, Integer.MIN_VALUE, Integer.MAX_VALUE};
        for (int boat : none) {
            check.illegalArgument("on " + boat, () -> net.on(boat));
            check.illegalArgument("off " + boat, () -> net.off(boat));
        }
        for (int boat = 0; boat < 8; boat++) {
            check.same("off while off", net.off(boat), false);
            check.same("on", net.on(boat), true);
            check.same("on again", net.on(boat), false);
            check.same("on casts", net.cast(boat, false), boat);
            check.same("off", net.off(boat), true);
            check.same("off again", net.off(boat), false);
            int b = boat;
            check.illegalState("off casts", () -> net.cast(b, false));
        }
        net.on(3);
        check.same("another boat stays off", net.off(4), false);
    }

    private static void onKeepsEntries() {
        DriftNet net = Nets.chain(2);
        Nets.tell(net, 0, true, 1);
        net.off(1);
        check.same("entry while off", Nets.routes(net, 1, 0), "0 1 2 1 2 0 0");
        net.on(1);
        check.same("entry when on again", Nets.routes(net, 1, 0), "0 1 2 1 2 0 0");
        net.off(0);
        net.on(0);
        check.same("own number when on again", net.route(0, 0, 2), 2);
        check.same("links when on again", net.best(0, 1), 1);
        check.same("nothing new to tell", Nets.rows(net, net.cast(0, false)), "");
    }

    private static void links() {
        DriftNet net = new DriftNet();
        check.same("not linked to be not", net.link(2, 5, false), false);
        check.same("linked, both off", net.link(2, 5, true), true);
        check.same("linked again", net.link(2, 5, true), false);
        check.same("linked the other way round", net.link(5, 2, true), false);
        check.same("unlinked the other way round", net.link(5, 2, false), true);
        check.same("unlinked again", net.link(2, 5, false), false);
        check.same("others are apart", net.link(2, 4, false), false);
        int[][] wrong = {{-1, 0}, {0, -1}, {8, 0}, {0, 8}, {3, 3}, {-1, -1}, {8, 8}};
        for (int[] pair : wrong) {
            check.illegalArgument("link " + pair[0] + ", " + pair[1], () -> net.link(pair[0], pair[1], true));
            check.illegalArgument("unlink " + pair[0] + ", " + pair[1], () -> net.link(pair[0], pair[1], false));
        }
        net.on(0);
        net.on(7);
        net.link(0, 7, true);
        net.off(0);
        check.same("a link outlives off", net.link(0, 7, true), false);
    }

    private static void bestWays() {
        DriftNet net = Nets.chain(8);
        for (int a = 0; a < 8; a++) {
            for (int b = 0; b < 8; b++) {
                check.same("best in a chain", net.best(a, b), Math.abs(a - b));
            }
        }
        net.link(0, 7, true);
        check.same("best round the other side", net.best(1, 6), 3);
        net.link(0, 7, false);
        net.link(1, 6, true);
        check.same("best over a short cut", net.best(0, 7), 3);
        net.off(6);
        check.same("best when the short cut is off", net.best(0, 5), 5);
        check.same("best past a boat that is off", net.best(0, 7), -1);
        check.same("best to a boat that is off", net.best(0, 6), -1);
        check.same("best from a boat that is off", net.best(6, 0), -1);
        check.same("best of an off boat to itself", net.best(6, 6), -1);
        net.on(6);
        net.link(3, 4, false);
        check.same("best round a cut", net.best(3, 4), 5);
        net.link(1, 6, false);
        check.same("best over a cut", net.best(3, 4), -1);
    }

    private static void bestWrong() {
        DriftNet net = Nets.chain(2);
        int[][] wrong = {{-1, 0}, {0, -1}, {8, 0}, {0, 8}, {7, 8}};
        for (int[] pair : wrong) {
            check.illegalArgument("best " + pair[0] + ", " + pair[1], () -> net.best(pair[0], pair[1]));
        }
    }

    private static void clocks() {
        DriftNet net = new DriftNet();
        for (int i = 1; i <= 200; i++) {
            check.same("tick", net.tick(), i);
            check.same("clock", net.clock(), i);
        }
        net.on(1);
        net.cast(1, true);
        check.same("only a tick moves the clock", net.clock(), 200);
    }
}
