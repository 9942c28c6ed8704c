/** Promises 9 to 11 and 16: tick, route, two and circle, with settling. */
public final class TicksTest {
    private static final Check check = new Check();

    public static void main(String[] args) {
        forgottenAfterSix();
        heardAgainIsKept();
        onlyWaysOverTheSilentAreLost();
        lostOnceOnly();
        offBoatsDoNotForget();
        settling();
        settlingJustNotYet();
        meanGrows();
        meanRoundsDown();
        nearerDoesNotWait();
        waitingStays();
        offBoatsDoNotSettle();
        brokenDoesNotWait();
        lostDoesNotWait();
        shownOverBroken();
        firstAfterBroken();
        routeWrong();
        twos();
        circles();
        check.end();
    }

    /** Boat 2 has mean 3 for goal 0. */
    static DriftNet settlingNet() {
        return settlingNet(3);
    }

    /** Boat 2 has that mean for goal 0: at clock 0 it heard of it over 1, and at the clock of the mean from 0. */
    private static DriftNet settlingNet(int mean) {
        DriftNet net = Nets.mesh(3);
        int cast = net.cast(0, true);
        net.hear(cast, 0, 1, false);
        Nets.tell(net, 1, false, 2);
        Nets.ticks(net, mean);
        net.hear(cast, 0, 2, false);
        return net;
    }

    private static void forgottenAfterSix() {
        DriftNet net = Nets.chain(2);
        Nets.ticks(net, 3);
        Nets.tell(net, 0, true, 1);
        for (int i = 4; i <= 8; i++) {
            check.same("tick", net.tick(), i);
            check.same("known still", Nets.routes(net, 1, 0), "0 1 2 1 2 0 0");
        }
        net.tick();
        check.same("lost", Nets.routes(net, 1, 0), "-1 -1 3 -1 3 0 0");
        check.same("what it has of itself stays", Nets.routes(net, 1, 1), "1 0 0 0 0 0 0");
    }

    private static void heardAgainIsKept() {
        DriftNet net = Nets.chain(2);
        int cast = net.cast(0, true);
        net.hear(cast, 0, 1, false);
        int empty = net.cast(0, false);
        Nets.ticks(net, 5);
        check.same("hear a part without any", net.hear(empty, 0, 1, false), 0);
        Nets.ticks(net, 5);
        check.same("known still", net.route(1, 0, 0), 0);
        check.same("hear an old cast", net.hear(cast, 0, 1, true), 0);
        Nets.ticks(net, 5);
        check.same("still known", net.route(1, 0, 0), 0);
        net.tick();
        check.same("lost in the end", net.route(1, 0, 0), -1);
    }

    private static void onlyWaysOverTheSilentAreLost() {
        DriftNet net = Nets.mesh(5);
        Nets.tell(net, 3, false, 1);
        Nets.tell(net, 4, false, 2);
        Nets.tell(net, 1, false, 0);
        net.tick();
        Nets.tell(net, 2, false, 0);
        Nets.ticks(net, 5);
        check.same("lost: the silent one", Nets.routes(net, 0, 1), "-1 -1 1 -1 1 0 0");
        check.same("lost: over the silent one", Nets.routes(net, 0, 3), "-1 -1 1 -1 1 0 0");
        check.same("kept: the other", Nets.routes(net, 0, 2), "2 1 0 1 0 0 0");
        check.same("kept: over the other", Nets.routes(net, 0, 4), "2 2 0 2 0 0 0");
        net.tick();
        check.same("lost: the other too", Nets.routes(net, 0, 4), "-1 -1 1 -1 1 0 0");
    }

    private static void lostOnceOnly() {
        DriftNet net = Nets.chain(2);
        int cast = net.cast(0, true);
        net.hear(cast, 0, 1, false);
        Nets.ticks(net, 6);
        check.same("lost", net.route(1, 0, 2), 3);
        check.same("heard again, nothing new", net.hear(cast, 0, 1, false), 0);
        Nets.ticks(net, 20);
        check.same("not lost twice", Nets.routes(net, 1, 0), "-1 -1 3 -1 3 0 0");
    }

    private static void offBoatsDoNotForget() {
        DriftNet net = Nets.chain(2);
        Nets.tell(net, 0, true, 1);
        Nets.tell(net, 1, false, 0);
        net.off(1);
        Nets.ticks(net, 9);
        check.same("the one that is on", net.route(0, 1, 2), 1);
        check.same("the one that is off", Nets.routes(net, 1, 0), "0 1 2 1 2 0 0");
        net.on(1);
        check.same("on again", net.route(1, 0, 0), 0);
        net.tick();
        check.same("at the tick after", Nets.routes(net, 1, 0), "-1 -1 3 -1 3 0 0");
    }

    private static void settling() {
        DriftNet net = settlingNet();
        check.same("mean 3, shown at once", Nets.routes(net, 2, 0), "0 1 2 1 2 3 0");
        Nets.tell(net, 0, true, 1);
        Nets.tell(net, 1, false, 2);
        check.same("waits", Nets.routes(net, 2, 0), "1 2 4 1 2 3 1");
        net.tick();
        check.same("4 times 1 is less than twice 3", Nets.routes(net, 2, 0), "1 2 4 1 2 3 1");
        net.tick();
        check.same("4 times 2 is not", Nets.routes(net, 2, 0), "1 2 4 2 4 3 0");
    }

    private static void settlingJustNotYet() {
        DriftNet net = settlingNet(5);
        Nets.tell(net, 0, true, 1);
        Nets.tell(net, 1, false, 2);
        Nets.ticks(net, 2);
        check.same("4 times 2 is less than twice 5", Nets.routes(net, 2, 0), "1 2 4 1 2 5 1");
        net.tick();
        check.same("4 times 3 is not", Nets.routes(net, 2, 0), "1 2 4 2 4 5 0");
    }

    private static void meanGrows() {
        DriftNet net = settlingNet();
        int cast = net.cast(0, true);
        net.hear(cast, 0, 1, false);
        Nets.tell(net, 1, false, 2);
        Nets.ticks(net, 2);
        net.hear(cast, 0, 2, false);
        check.same("3 times 3 and 4 times 2, by 4", Nets.routes(net, 2, 0), "0 1 4 1 4 4 0");
        Nets.tell(net, 0, true, 1);
        Nets.tell(net, 1, false, 2);
        net.tick();
        check.same("4 times 1 is less than twice 4", net.route(2, 0, 6), 1);
        net.tick();
        check.same("4 times 2 is just twice 4", Nets.routes(net, 2, 0), "1 2 6 2 6 4 0");
    }

    private static void meanRoundsDown() {
        DriftNet net = settlingNet();
        int[] due = {2, 1, 0};
        for (int i = 0; i < 3; i++) {
            int cast = net.cast(0, true);
            net.hear(cast, 0, 1, false);
            Nets.tell(net, 1, false, 2);
            check.same("it waits while the mean is above 0", net.route(2, 0, 6), 1);
            net.hear(cast, 0, 2, false);
            check.same("3 times the mean by 4, rounded down", net.route(2, 0, 5), due[i]);
        }
        Nets.tell(net, 0, true, 1);
        Nets.tell(net, 1, false, 2);
        check.same("further, but the mean is 0", Nets.routes(net, 2, 0), "1 2 10 2 10 0 0");
    }

    private static void nearerDoesNotWait() {
        DriftNet net = settlingNet();
        int cast = net.cast(0, true);
        net.hear(cast, 0, 2, false);
        check.same("as near as shown", Nets.routes(net, 2, 0), "0 1 4 1 4 3 0");
        Nets.tell(net, 0, true, 1);
        Nets.tell(net, 1, false, 2);
        check.same("further waits", net.route(2, 0, 6), 1);
        Nets.tell(net, 0, true, 2);
        check.same("no more when as near as shown", Nets.routes(net, 2, 0), "0 1 8 1 8 3 0");
        check.same("another goal has a mean of its own", Nets.routes(net, 2, 1), "1 1 0 1 0 0 0");
    }

    private static void waitingStays() {
        DriftNet net = settlingNet();
        Nets.tell(net, 0, true, 1);
        Nets.tell(net, 1, false, 2);
        net.tick();
        Nets.tell(net, 0, true, 1);
        Nets.tell(net, 1, false, 2);
        check.same("waits still", Nets.routes(net, 2, 0), "1 2 6 1 2 3 1");
        net.tick();
        check.same("first is that of the later number", Nets.routes(net, 2, 0), "1 2 6 1 2 3 1");
        net.tick();
        check.same("shown in the end", Nets.routes(net, 2, 0), "1 2 6 2 6 3 0");
    }

    private static void offBoatsDoNotSettle() {
        DriftNet net = settlingNet();
        Nets.tell(net, 0, true, 1);
        Nets.tell(net, 1, false, 2);
        net.off(2);
        Nets.ticks(net, 4);
        check.same("waits while off", Nets.routes(net, 2, 0), "1 2 4 1 2 3 1");
        net.on(2);
        net.tick();
        check.same("shown at the tick after", Nets.routes(net, 2, 0), "1 2 4 2 4 3 0");
    }

    private static void brokenDoesNotWait() {
        DriftNet net = Nets.mesh(4);
        int cast = net.cast(0, true);
        net.hear(cast, 0, 1, false);
        Nets.tell(net, 1, false, 2);
        Nets.ticks(net, 3);
        net.hear(cast, 0, 2, false);
        Nets.tell(net, 0, true, 3);
        int over3 = net.cast(3, false);
        Nets.ticks(net, 6);
        int broken = net.cast(3, false);
        check.same("3 has lost it", Nets.rows(net, broken), "0:5:-1");
        check.same("2 has lost it", Nets.routes(net, 2, 0), "-1 -1 3 -1 3 3 0");
        check.same("whole again", net.hear(over3, 0, 2, true), 2);
        check.same("shown over a broken one", Nets.routes(net, 2, 0), "3 2 4 2 4 3 0");
        check.same("broken", net.hear(broken, 0, 2, true), 1);
        check.same("broken is shown at once", Nets.routes(net, 2, 0), "-1 -1 5 -1 5 3 0");
    }

    private static void lostDoesNotWait() {
        DriftNet net = Nets.mesh(3);
        int cast = net.cast(0, true);
        net.hear(cast, 0, 1, false);
        int over1 = net.cast(1, false);
        net.hear(over1, 0, 2, false);
        // Heard again and again, so that the mean is above what six ticks can settle.
        for (int i = 0; i < 20; i++) {
            net.tick();
            net.hear(over1, 0, 2, true);
            net.hear(cast, 0, 1, true);
        }
        net.hear(cast, 0, 2, true);
        check.same("a mean of 20", Nets.routes(net, 2, 0), "0 1 2 1 2 20 0");
        Nets.tell(net, 0, true, 1);
        Nets.tell(net, 1, false, 2);
        Nets.ticks(net, 5);
        check.same("waits", Nets.routes(net, 2, 0), "1 2 4 1 2 20 1");
        net.tick();
        check.same("lost", Nets.routes(net, 2, 0), "-1 -1 5 -1 5 20 0");
        Nets.ticks(net, 6);
        check.same("waits no more", Nets.routes(net, 2, 0), "-1 -1 5 -1 5 20 0");
    }

    private static void shownOverBroken() {
        DriftNet net = settlingNet();
        Nets.ticks(net, 6);
        check.same("lost, with a mean", Nets.routes(net, 2, 0), "-1 -1 3 -1 3 3 0");
        Nets.tell(net, 0, true, 1);
        Nets.tell(net, 1, false, 2);
        check.same("shown at once, though further", Nets.routes(net, 2, 0), "1 2 4 2 4 3 0");
    }

    private static void firstAfterBroken() {
        DriftNet net = Nets.mesh(3);
        int near = net.cast(0, true);
        net.hear(near, 0, 1, false);
        Nets.tell(net, 1, false, 2);
        Nets.ticks(net, 6);
        int broken = net.cast(1, false);
        Nets.ticks(net, 2);
        check.same("lost already", net.hear(broken, 0, 2, true), 0);
        int young = net.cast(0, true);
        net.hear(young, 0, 1, false);
        Nets.tell(net, 1, false, 2);
        Nets.ticks(net, 5);
        net.hear(young, 0, 2, false);
        check.same("first is when the whole one came", Nets.routes(net, 2, 0), "0 1 4 1 4 5 0");
    }

    private static void routeWrong() {
        DriftNet net = Nets.chain(2);
        check.illegalArgument("what -1", () -> net.route(0, 1, -1));
        check.illegalArgument("what 7", () -> net.route(0, 1, 7));
        check.illegalArgument("what 7 of an entry", () -> net.route(0, 0, 7));
        check.illegalArgument("boat -1", () -> net.route(-1, 1, 0));
        check.illegalArgument("boat 8", () -> net.route(8, 1, 0));
        check.illegalArgument("goal -1", () -> net.route(0, -1, 0));
        check.illegalArgument("goal 8", () -> net.route(0, 8, 5));
    }

    private static void twos() {
        DriftNet net = Nets.chain(2);
        check.same("neither", net.two(0, 1), false);
        Nets.tell(net, 0, false, 1);
        check.same("one of them", net.two(0, 1), false);
        check.same("one of them, the other way round", net.two(1, 0), false);
        net.tick();
        Nets.tell(net, 1, false, 0);
        check.same("both", net.two(0, 1), true);
        check.same("both, the other way round", net.two(1, 0), true);
        check.same("the same one", net.two(1, 1), false);
        net.link(0, 1, false);
        check.same("it is about hearing, not links", net.two(0, 1), true);
        Nets.ticks(net, 4);
        check.same("both still", net.two(0, 1), true);
        net.tick();
        check.same("one has not heard any more", net.two(0, 1), false);
        Nets.tell(net, 0, false, 1);
        check.same("both again", net.two(0, 1), true);
        net.off(0);
        net.off(1);
        Nets.ticks(net, 9);
        check.same("off boats forget nothing", net.two(0, 1), true);
        int[][] wrong = {{-1, 0}, {0, -1}, {8, 0}, {0, 8}, {8, 8}, {-1, -1}};
        for (int[] pair : wrong) {
            check.illegalArgument("two " + pair[0] + ", " + pair[1], () -> net.two(pair[0], pair[1]));
        }
    }

    private static void circles() {
        DriftNet net = Nets.chain(8);
        for (int round = 0; round < 2; round++) {
            for (int i = 0; i < 7; i++) {
                Nets.tell(net, i, round == 1, i + 1);
            }
        }
        for (int goal = 0; goal < 8; goal++) {
            check.same("no circle, the goal aside", net.circle(goal), 0);
        }
        check.illegalArgument("circle -1", () -> net.circle(-1));
        check.illegalArgument("circle 8", () -> net.circle(8));
    }
}
