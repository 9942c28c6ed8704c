import java.lang.reflect.Array;
import java.lang.reflect.Field;

/**
 * Edges that the document names but that no run of calls can reach, because the promises keep them
 * away: a circle, a metric above 15, a packet held by its bound. The state is set from inside for them.
 */
public final class InsideTest {
    private static final Check check = new Check();

    public static void main(String[] args) throws ReflectiveOperationException {
        circleOfTwoAndThree();
        circleBesideATail();
        waysToTheGoal();
        metricFifteen();
        boundHolds();
        boundIsFreshForANewPacket();
        nextWithoutEntry();
        check.end();
    }

    private static Object field(Object of, String name) throws ReflectiveOperationException {
        Field field = of.getClass().getDeclaredField(name);
        field.setAccessible(true);
        return field.get(of);
    }

    private static void set(DriftNet net, int boat, int goal, String name, int value)
            throws ReflectiveOperationException {
        Object entry = Array.get(field(Array.get(field(net, "boats"), boat), "entries"), goal);
        Field field = entry.getClass().getDeclaredField(name);
        field.setAccessible(true);
        field.setInt(entry, value);
    }

    private static void next(DriftNet net, int goal, int... nexts) throws ReflectiveOperationException {
        for (int boat = 0; boat < nexts.length; boat++) {
            set(net, boat, goal, "next", nexts[boat]);
        }
    }

    private static void circleOfTwoAndThree() throws ReflectiveOperationException {
        DriftNet net = new DriftNet();
        next(net, 7, 4, 2, 3, 1, 0, 6, 5);
        check.same("the circle of the least boat", net.circle(7), 2);
        next(net, 7, 7, 2, 3, 1, 5, 4);
        check.same("the circle of the next one", net.circle(7), 3);
        next(net, 7, 1, 2, 3, 4, 5, 6, 0);
        check.same("all but the goal", net.circle(7), 7);
        check.same("another goal", net.circle(6), 0);
    }

    private static void circleBesideATail() throws ReflectiveOperationException {
        DriftNet net = new DriftNet();
        next(net, 7, 3, 5, 1, 2, -1, 2);
        check.same("the tail does not count", net.circle(7), 3);
    }

    private static void waysToTheGoal() throws ReflectiveOperationException {
        DriftNet net = new DriftNet();
        next(net, 0, 0, 0, 1, 2, 3);
        check.same("a way that ends at the goal", net.circle(0), 0);
    }

    private static void metricFifteen() throws ReflectiveOperationException {
        DriftNet net = Nets.chain(3);
        Nets.tell(net, 0, true, 1);
        set(net, 1, 0, "shownMetric", 15);
        check.same("16 is not taken, the sender is", Nets.tell(net, 1, true, 2), 1);
        check.same("there is none", net.route(2, 0, 2), -1);
        set(net, 1, 0, "shownMetric", 14);
        check.same("15 is taken", Nets.tell(net, 1, true, 2), 2);
        check.same("it is 15", net.route(2, 0, 1), 15);
        set(net, 1, 0, "shownMetric", 15);
        set(net, 1, 0, "shownNumber", 8);
        check.same("16 is not taken with a greater number", Nets.tell(net, 1, true, 2), 1);
        check.same("it is 15 still", net.route(2, 0, 1), 15);
    }

    private static DriftNet movedOnce() {
        DriftNet net = Nets.chain(4);
        for (int i = 0; i < 3; i++) {
            Nets.tell(net, i, i == 0, i + 1);
        }
        net.send(3, 0, 7);
        check.same("its bound is 2, 2", net.move(0), 2);
        return net;
    }

    private static void boundHolds() throws ReflectiveOperationException {
        DriftNet net = movedOnce();
        set(net, 1, 0, "metric", 3);
        check.same("the same number, a greater metric", net.move(0), 2);
        set(net, 1, 0, "metric", 2);
        check.same("the same number and metric", net.move(0), 2);
        set(net, 1, 0, "metric", 0);
        set(net, 1, 0, "number", 0);
        check.same("a lesser number, a lesser metric", net.move(0), 2);
        set(net, 1, 0, "number", 4);
        set(net, 1, 0, "metric", 9);
        check.same("a greater number, a greater metric", net.move(0), 1);
        check.same("its bound is 4, 9: a lesser number at the goal", net.move(0), 1);
        set(net, 0, 0, "number", 4);
        check.same("the same number, a lesser metric", net.move(0), -1);
    }

    private static void boundIsFreshForANewPacket() throws ReflectiveOperationException {
        DriftNet net = movedOnce();
        net.move(0);
        net.move(0);
        set(net, 2, 0, "number", 0);
        set(net, 2, 0, "metric", 9);
        net.send(3, 0, 8);
        check.same("a new packet has no bound", net.move(1), 2);
    }

    private static void nextWithoutEntry() throws ReflectiveOperationException {
        DriftNet net = Nets.chain(3);
        Nets.tell(net, 1, false, 2);
        set(net, 2, 0, "number", 2);
        set(net, 2, 0, "metric", 2);
        set(net, 2, 0, "next", 1);
        net.send(2, 0, 1);
        check.same("the next boat has no entry", net.move(0), 2);
    }
}
