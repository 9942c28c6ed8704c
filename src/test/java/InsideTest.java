import java.lang.reflect.Array;
import java.lang.reflect.Field;

/**
 * Edges that the document names but that no run of calls can reach, because the promises keep them away (a
 * circle, a metric above 15, a packet held by its bound, and some more). The state is set from inside for
 * them, so this test has to be written anew when the fields of DriftNet are named otherwise.
 */
public final class InsideTest {
    private static final Check check = new Check();

    public static void main(String[] args) throws ReflectiveOperationException {
        circleOfTwoAndThree();
        circleBesideATail();
        waysToTheGoal();
        metricFifteen();
        brokenOfTheSameNumber();
        noneShownThoughThereIsAMean();
        brokenLeavesFirst();
        boundHolds();
        boundStaysWithThePacket();
        boundIsFreshForANewPacket();
        hereWithoutEntry();
        nextWithoutEntry();
        check.end();
    }

    private static Object field(Object of, String name) throws ReflectiveOperationException {
        Field field = of.getClass().getDeclaredField(name);
        field.setAccessible(true);
        return field.get(of);
    }

    private static void set(DriftNet net, int boat, int goal, String name, int value)
            throws ReflectiveOperationException {
        Object entry = Array.get(field(Array.get(field(net, "boats"), boat), "entries"), goal);
        Field field = entry.getClass().getDeclaredField(name);
        field.setAccessible(true);
        field.setInt(entry, value);
    }

    private static int first(DriftNet net, int boat, int goal) throws ReflectiveOperationException {
        return (int) field(Array.get(field(Array.get(field(net, "boats"), boat), "entries"), goal), "first");
    }

    private static void next(DriftNet net, int goal, int... nexts) throws ReflectiveOperationException {
        for (int boat = 0; boat < nexts.length; boat++) {
            set(net, boat, goal, "next", nexts[boat]);
        }
    }

    /** Promise 16: "the least one's circle" */
    private static void circleOfTwoAndThree() throws ReflectiveOperationException {
        DriftNet net = new DriftNet();
        next(net, 7, 4, 2, 3, 1, 0, 6, 5);
        check.same("the circle of the least boat", net.circle(7), 2);
        next(net, 7, 7, 2, 3, 1, 5, 4);
        check.same("the circle of the next one", net.circle(7), 3);
        next(net, 7, 1, 2, 3, 4, 5, 6, 0);
        check.same("all but the goal", net.circle(7), 7);
        check.same("another goal", net.circle(6), 0);
        next(net, 7, -1, 1, 3, 2, 5, 6, 4);
        check.same("a boat that is its own next", net.circle(7), 1);
    }

    /** "of those from which one comes back to them": not of those from which one only comes to a circle. */
    private static void circleBesideATail() throws ReflectiveOperationException {
        DriftNet net = new DriftNet();
        next(net, 7, 3, 5, 1, 2, -1, 2);
        check.same("the tail does not count", net.circle(7), 3);
    }

    /** "(the goal itself aside)" */
    private static void waysToTheGoal() throws ReflectiveOperationException {
        DriftNet net = new DriftNet();
        next(net, 0, 0, 0, 1, 2, 3);
        check.same("a way that ends at the goal", net.circle(0), 0);
    }

    /** "m is not above 15" */
    private static void metricFifteen() throws ReflectiveOperationException {
        DriftNet net = Nets.chain(3);
        Nets.tell(net, 0, true, 1);
        set(net, 1, 0, "shownMetric", 15);
        check.same("16 is not taken, the sender is", Nets.tell(net, 1, true, 2), 1);
        check.same("there is none", net.route(2, 0, 2), -1);
        set(net, 1, 0, "shownMetric", 14);
        check.same("15 is taken", Nets.tell(net, 1, true, 2), 2);
        check.same("it is 15", net.route(2, 0, 1), 15);
        set(net, 1, 0, "shownMetric", 15);
        set(net, 1, 0, "shownNumber", 8);
        check.same("16 is not taken with a greater number", Nets.tell(net, 1, true, 2), 1);
        check.same("it is 15 still", net.route(2, 0, 1), 15);
    }

    /** "or it is the same, and m (not BROKEN) is less than the entry's metric" */
    private static void brokenOfTheSameNumber() throws ReflectiveOperationException {
        DriftNet net = Nets.chain(3);
        Nets.tell(net, 0, true, 1);
        Nets.tell(net, 1, true, 2);
        set(net, 1, 0, "shownMetric", -1);
        check.same("the sender alone", Nets.tell(net, 1, true, 2), 1);
        check.same("it is whole still", Nets.routes(net, 2, 0), "1 2 2 2 2 0 0");
    }

    /** "or there was no shown one" */
    private static void noneShownThoughThereIsAMean() throws ReflectiveOperationException {
        DriftNet net = Nets.chain(2);
        set(net, 1, 0, "mean", 9);
        Nets.tell(net, 0, true, 1);
        check.same("shown at once", Nets.routes(net, 1, 0), "0 1 2 1 2 9 0");
    }

    /** "and is not BROKEN, first is the clock" */
    private static void brokenLeavesFirst() throws ReflectiveOperationException {
        Tales tales = new Tales();
        tales.hear("2/1");
        Nets.ticks(tales.net, 2);
        tales.hear("3/B");
        check.same("that of the whole one", first(tales.net, 7, 0), Tales.CLOCK);
        tales.hear("4/1");
        check.same("that of the next whole one", first(tales.net, 7, 0), Tales.CLOCK + 2);
    }

    private static DriftNet movedOnce() {
        DriftNet net = Nets.chain(4);
        for (int i = 0; i < 3; i++) {
            Nets.tell(net, i, i == 0, i + 1);
        }
        net.send(3, 0, 7);
        check.same("its bound is 2, 2", net.move(0), 2);
        return net;
    }

    /** "that entry of y has not a greater number, or the same one and a lesser metric" */
    private static void boundHolds() throws ReflectiveOperationException {
        DriftNet net = movedOnce();
        set(net, 1, 0, "metric", 3);
        check.same("the same number, a greater metric", net.move(0), 2);
        set(net, 1, 0, "metric", 2);
        check.same("the same number and metric", net.move(0), 2);
        set(net, 1, 0, "metric", 0);
        set(net, 1, 0, "number", 0);
        check.same("a lesser number, a lesser metric", net.move(0), 2);
        set(net, 1, 0, "number", 4);
        set(net, 1, 0, "metric", 9);
        check.same("a greater number, a greater metric", net.move(0), 1);
        check.same("its bound is 4, 9: a lesser number at the goal", net.move(0), 1);
        set(net, 0, 0, "number", 4);
        check.same("the same number, a lesser metric", net.move(0), -1);
    }

    /** A packet that stays keeps the bound that it had. */
    private static void boundStaysWithThePacket() throws ReflectiveOperationException {
        DriftNet net = movedOnce();
        set(net, 1, 0, "metric", 2);
        net.off(1);
        check.same("the next is off", net.move(0), 2);
        net.on(1);
        check.same("the same number and metric", net.move(0), 2);
        set(net, 1, 0, "metric", 1);
        check.same("a lesser metric", net.move(0), 1);
    }

    private static void boundIsFreshForANewPacket() throws ReflectiveOperationException {
        DriftNet net = movedOnce();
        net.move(0);
        net.move(0);
        set(net, 2, 0, "number", 0);
        set(net, 2, 0, "metric", 9);
        net.send(3, 0, 8);
        check.same("a new packet has no bound", net.move(1), 2);
    }

    /** "it stays, if x has no entry for the goal" */
    private static void hereWithoutEntry() throws ReflectiveOperationException {
        DriftNet net = movedOnce();
        set(net, 2, 0, "number", -1);
        set(net, 2, 0, "metric", -1);
        set(net, 2, 0, "next", -1);
        check.same("no entry here", net.move(0), 2);
    }

    /** "or y has no entry for the goal" */
    private static void nextWithoutEntry() throws ReflectiveOperationException {
        DriftNet net = Nets.chain(3);
        Nets.tell(net, 1, false, 2);
        set(net, 2, 0, "number", 2);
        set(net, 2, 0, "metric", 2);
        set(net, 2, 0, "next", 1);
        net.send(2, 0, 1);
        check.same("the next boat has no entry", net.move(0), 2);
    }
}
