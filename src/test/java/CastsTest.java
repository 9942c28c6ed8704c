/** Promises 5 to 8: cast, parts, entry and hear. */
public final class CastsTest {
    private static final Check check = new Check();

    public static void main(String[] args) {
        castsOfOneBoat();
        castWrong();
        partsOfThree();
        onlyWhatChanged();
        waitingIsNotTold();
        sixteenAreKept();
        entryWrong();
        hearWrong();
        hearThrowsChangesNothing();
        hearLate();
        whatIsTaken();
        brokenIsTaken();
        hearsOnePartAlone();
        check.end();
    }

    private static void castsOfOneBoat() {
        DriftNet net = new DriftNet();
        net.on(4);
        check.same("first cast", net.cast(4, false), 0);
        check.same("the own entry has come", Nets.rows(net, 0), "4:0:0");
        check.same("second cast", net.cast(4, false), 1);
        check.same("nothing changed", Nets.rows(net, 1), "");
        check.same("one part without any", net.parts(1), 1);
        check.same("full cast", net.cast(4, true), 2);
        check.same("full has the number after", Nets.rows(net, 2), "4:2:0");
        check.same("the number grew, also the shown one", Nets.routes(net, 4, 4), "4 0 2 0 2 0 0");
        check.same("nothing changed since a full one", Nets.rows(net, net.cast(4, false)), "");
        check.same("full again", Nets.rows(net, net.cast(4, true)), "4:4:0");
        check.same("an older cast is as it was", Nets.rows(net, 2), "4:2:0");
        net.on(5);
        check.same("one count for all boats", net.cast(5, true), 5);
    }

    private static void castWrong() {
        DriftNet net = new DriftNet();
        check.illegalArgument("cast of boat -1", () -> net.cast(-1, true));
        check.illegalArgument("cast of boat 8", () -> net.cast(8, false));
        check.illegalState("cast of an off boat", () -> net.cast(0, true));
        check.illegalState("cast of an off boat", () -> net.cast(0, false));
        check.same("the number has not grown", net.route(0, 0, 2), 0);
        check.illegalArgument("no cast was made", () -> net.parts(0));
        net.on(0);
        check.same("the first number is free still", net.cast(0, false), 0);
        check.same("the own entry still counts as come", Nets.rows(net, 0), "0:0:0");
    }

    private static void partsOfThree() {
        DriftNet net = Nets.mesh(8);
        int[] due = {1, 1, 1, 2, 2, 2, 3, 3};
        for (int i = 0; i < 8; i++) {
            if (i > 0) {
                Nets.tell(net, 8 - i, false, 0);
            }
            check.same("parts of " + (i + 1), net.parts(net.cast(0, true)), due[i]);
        }
        check.same("rising goals, three a part", Nets.rows(net, 14),
            "0:16:0 1:0:1 2:0:1|3:0:1 4:0:1 5:0:1|6:0:1 7:0:1");
        for (int cast : new int[] {-1, 15, Integer.MIN_VALUE, Integer.MAX_VALUE}) {
            check.illegalArgument("parts of " + cast, () -> net.parts(cast));
        }
    }

    private static void onlyWhatChanged() {
        DriftNet net = Nets.mesh(4);
        net.cast(0, false);
        Nets.tell(net, 3, false, 0);
        Nets.tell(net, 1, true, 0);
        check.same("what came since", Nets.rows(net, net.cast(0, false)), "1:2:1 3:0:1");
        Nets.tell(net, 1, true, 0);
        check.same("what changed since", Nets.rows(net, net.cast(0, false)), "1:4:1");
        check.same("nothing since", Nets.rows(net, net.cast(0, false)), "");
        check.same("full has all", Nets.rows(net, net.cast(0, true)), "0:2:0 1:4:1 3:0:1");
        check.same("nothing since the full one", Nets.rows(net, net.cast(0, false)), "");
        Nets.ticks(net, 6);
        check.same("what was lost since", Nets.rows(net, net.cast(0, false)), "1:5:-1 3:1:-1");
        check.same("full has the broken ones", Nets.rows(net, net.cast(0, true)), "0:4:0 1:5:-1 3:1:-1");
    }

    private static void waitingIsNotTold() {
        DriftNet net = TicksTest.settlingNet();
        net.cast(2, false);
        Nets.hearAll(net, net.cast(0, true), 1);
        Nets.hearAll(net, net.cast(1, false), 2);
        check.same("it waits", Nets.routes(net, 2, 0), "1 2 4 1 2 3 1");
        check.same("what waits is not told", Nets.rows(net, net.cast(2, false)), "");
        check.same("full tells the shown one", Nets.rows(net, net.cast(2, true)), "0:2:1 1:0:1 2:2:0");
        Nets.ticks(net, 2);
        check.same("what waited no more is told", Nets.rows(net, net.cast(2, false)), "0:4:2");
    }

    private static void sixteenAreKept() {
        DriftNet net = Nets.chain(2);
        for (int i = 0; i < 16; i++) {
            net.cast(i % 2, true);
        }
        check.same("the first of sixteen is kept", Nets.rows(net, 0), "0:2:0");
        net.cast(0, true);
        check.illegalArgument("parts of one too old", () -> net.parts(0));
        check.illegalArgument("entry of one too old", () -> net.entry(0, 0, 0, 0));
        check.illegalArgument("hear one too old", () -> net.hear(0, 0, 1, true));
        check.same("the oldest kept one", Nets.rows(net, 1), "1:2:0");
        check.same("the newest one", Nets.rows(net, 16), "0:18:0");
        check.same("hear the oldest kept one", net.hear(1, 0, 0, true), 1);
        check.same("its sender and number", Nets.routes(net, 0, 1), "1 1 2 1 2 0 0");
    }

    private static void entryWrong() {
        DriftNet net = Nets.mesh(5);
        for (int i = 1; i < 5; i++) {
            Nets.tell(net, i, false, 0);
        }
        int cast = net.cast(0, true);
        check.same("goal of the last", net.entry(cast, 1, 1, 0), 4);
        check.same("number of the first", net.entry(cast, 0, 0, 1), 2);
        check.same("metric of the last", net.entry(cast, 1, 1, 2), 1);
        check.outOfBounds("entry 3 of a whole part", () -> net.entry(cast, 0, 3, 0));
        check.outOfBounds("entry 2 of the last part", () -> net.entry(cast, 1, 2, 0));
        check.outOfBounds("entry -1", () -> net.entry(cast, 1, -1, 1));
        check.outOfBounds("entry at the end of the numbers", () -> net.entry(cast, 1, Integer.MAX_VALUE, 1));
        check.illegalArgument("part 2", () -> net.entry(cast, 2, 0, 0));
        check.illegalArgument("part -1", () -> net.entry(cast, -1, 0, 0));
        check.illegalArgument("part at the end of the numbers", () -> net.entry(cast, Integer.MAX_VALUE, 0, 0));
        check.illegalArgument("cast -1", () -> net.entry(-1, 0, 0, 0));
        check.illegalArgument("a cast not made yet", () -> net.entry(cast + 1, 0, 0, 0));
        check.illegalArgument("what 3", () -> net.entry(cast, 0, 0, 3));
        check.illegalArgument("what -1", () -> net.entry(cast, 0, 0, -1));
        check.illegalArgument("what goes before i", () -> net.entry(cast, 0, 3, 3));
        check.illegalArgument("part goes before i", () -> net.entry(cast, 2, 3, 0));
        check.illegalArgument("cast goes before i", () -> net.entry(cast + 1, 0, -1, 0));
        int empty = net.cast(0, false);
        check.outOfBounds("an empty part", () -> net.entry(empty, 0, 0, 0));
        check.illegalArgument("a second part of none", () -> net.entry(empty, 1, 0, 0));
    }

    private static void hearWrong() {
        DriftNet net = Nets.chain(3);
        int cast = net.cast(0, true);
        check.illegalArgument("cast 1", () -> net.hear(1, 0, 1, false));
        check.illegalArgument("cast -1", () -> net.hear(-1, 0, 1, false));
        check.illegalArgument("part 1", () -> net.hear(cast, 1, 1, false));
        check.illegalArgument("part -1", () -> net.hear(cast, -1, 1, false));
        check.illegalArgument("boat 8", () -> net.hear(cast, 0, 8, false));
        check.illegalArgument("boat -1", () -> net.hear(cast, 0, -1, true));
        check.illegalState("the boat is off", () -> net.hear(cast, 0, 3, true));
        check.illegalState("the boat sent it", () -> net.hear(cast, 0, 0, true));
        check.illegalState("the boat sent it, not late", () -> net.hear(cast, 0, 0, false));
        check.illegalState("they are not linked", () -> net.hear(cast, 0, 2, false));
        check.illegalArgument("cast goes before off", () -> net.hear(1, 0, 3, false));
        check.illegalArgument("part goes before off", () -> net.hear(cast, 1, 3, false));
        check.illegalArgument("part goes before not linked", () -> net.hear(cast, 1, 2, false));
        check.illegalArgument("part goes before sent it", () -> net.hear(cast, 1, 0, false));
        net.link(0, 3, true);
        check.illegalState("linked but off", () -> net.hear(cast, 0, 3, false));
        net.link(0, 1, false);
        check.illegalState("linked no more", () -> net.hear(cast, 0, 1, false));
    }

    private static void hearThrowsChangesNothing() {
        DriftNet net = Nets.chain(3);
        Nets.tell(net, 2, false, 0);
        int cast = net.cast(0, true);
        check.illegalState("they are not linked", () -> net.hear(cast, 0, 2, false));
        check.same("nothing was taken", Nets.routes(net, 2, 0), "-1 -1 -1 -1 -1 0 0");
        check.same("nor was it heard", net.two(0, 2), false);
        net.off(2);
        check.illegalState("it is off", () -> net.hear(cast, 0, 2, true));
        check.same("nothing was taken when off", Nets.routes(net, 2, 0), "-1 -1 -1 -1 -1 0 0");
        check.same("nor was it heard when off", net.two(0, 2), false);
        net.on(2);
        check.same("nor is there news", Nets.rows(net, net.cast(2, false)), "");
        check.same("now it is heard", net.hear(cast, 0, 2, true), 1);
        check.same("and they know each other", net.two(0, 2), true);
    }

    private static void hearLate() {
        DriftNet net = Nets.chain(2);
        int cast = net.cast(0, true);
        net.off(0);
        check.same("linked, the sender being off", net.hear(cast, 0, 1, false), 1);
        check.same("again", net.hear(cast, 0, 1, false), 0);
        net.link(0, 1, false);
        check.same("late, not linked", net.hear(cast, 0, 1, true), 0);
        net.on(5);
        check.same("late, never linked", net.hear(cast, 0, 5, true), 1);
        check.same("the sender is next", Nets.routes(net, 5, 0), "0 1 2 1 2 0 0");
    }

    private static void whatIsTaken() {
        DriftNet net = Nets.mesh(4);
        int old = net.cast(0, true);
        int young = net.cast(0, true);
        check.same("none before", net.hear(young, 0, 1, false), 1);
        check.same("the number", net.route(1, 0, 2), 4);
        check.same("a lesser number", net.hear(old, 0, 1, false), 0);
        check.same("the number stays", net.route(1, 0, 2), 4);
        int far = net.cast(1, false);
        check.same("two goals", net.hear(far, 0, 2, false), 2);
        check.same("one further", Nets.routes(net, 2, 0), "1 2 4 2 4 0 0");
        check.same("the same again", net.hear(far, 0, 2, false), 0);
        check.same("a lesser number, though nearer", net.hear(old, 0, 2, false), 0);
        check.same("not of itself, but the sender", net.hear(far, 0, 0, false), 1);
        check.same("its own entry stays", Nets.routes(net, 0, 0), "0 0 4 0 4 0 0");
        int further = net.cast(2, false);
        check.same("the same number, further", net.hear(further, 0, 1, false), 1);
        check.same("its way stays", Nets.routes(net, 1, 0), "0 1 4 1 4 0 0");
        check.same("three at first", net.hear(further, 0, 3, false), 3);
        check.same("the same number, nearer, and the same as it was", net.hear(far, 0, 3, false), 2);
        check.same("nearer over the other", Nets.routes(net, 3, 0), "1 2 4 2 4 0 0");
        check.same("the same number, as near", Nets.tell(net, 2, true, 3), 1);
        check.same("stays with the first", net.route(3, 0, 0), 1);
        int youngest = net.cast(0, true);
        net.hear(youngest, 0, 2, false);
        Nets.tell(net, 2, false, 3);
        check.same("a greater number from elsewhere", Nets.routes(net, 3, 0), "2 2 6 2 6 0 0");
    }

    private static void brokenIsTaken() {
        DriftNet net = Nets.mesh(4);
        Nets.tell(net, 0, true, 1);
        int whole = net.cast(1, false);
        Nets.hearAll(net, whole, 2);
        Nets.ticks(net, 6);
        int broken = net.cast(1, false);
        check.same("it is broken", Nets.rows(net, broken), "0:3:-1");
        check.same("the hearer has lost it too", Nets.routes(net, 2, 0), "-1 -1 3 -1 3 0 0");
        check.same("broken with the same number", net.hear(broken, 0, 2, false), 0);
        check.same("broken where there is none", net.hear(broken, 0, 3, false), 0);
        check.same("there is none still", Nets.routes(net, 3, 0), "-1 -1 -1 -1 -1 0 0");
        check.same("the goal itself", net.hear(broken, 0, 0, false), 0);
        check.same("its own number stays", net.route(0, 0, 2), 2);
        check.same("whole with a lesser number", net.hear(whole, 0, 3, true), 2);
        check.same("broken with a greater number", net.hear(broken, 0, 3, false), 1);
        check.same("then there is no next", Nets.routes(net, 3, 0), "-1 -1 3 -1 3 0 0");
        check.same("it is told at once", Nets.rows(net, net.cast(3, false)), "0:3:-1 1:0:1 3:0:0");
        check.same("whole with a number before", net.hear(whole, 0, 3, true), 0);
        check.same("whole with a greater number", Nets.tell(net, 0, true, 3), 1);
        check.same("broken with a lesser number", net.hear(broken, 0, 3, true), 0);
        check.same("it is whole", Nets.routes(net, 3, 0), "0 1 4 1 4 0 0");
        Nets.ticks(net, 6);
        check.same("broken over broken, a greater number", Nets.tell(net, 3, false, 2), 1);
        check.same("the number of the broken", Nets.routes(net, 2, 0), "-1 -1 5 -1 5 0 0");
    }

    private static void hearsOnePartAlone() {
        DriftNet net = Nets.mesh(6);
        for (int i = 1; i < 5; i++) {
            Nets.tell(net, i, false, 0);
        }
        int cast = net.cast(0, false);
        check.same("the second part", net.hear(cast, 1, 5, false), 2);
        check.same("nothing of the first part", net.route(5, 2, 2), -1);
        check.same("of the second", net.route(5, 3, 1), 2);
        check.same("the first part", net.hear(cast, 0, 5, false), 3);
        check.same("of the first", net.route(5, 2, 1), 2);
    }
}
