/** Promises 1 to 4, 17 and 18: a new object, on, off, link, best and clock. What is refused stands in RefusedTest. */
public final class BoatsTest {
    private static final Check check = new Check();

    public static void main(String[] args) {
        newBoatsAreOff();
        newBoatsAreNotLinked();
        newBoatsKnowThemselves();
        newNetIsEmpty();
        onAnswers();
        offAnswers();
        onKeepsEntries();
        onKeepsAllElse();
        linkAnswers();
        linkIsOfBoth();
        linkOfOffBoats();
        bestInAChain();
        bestOfSeveral();
        bestOverOff();
        bestOfOff();
        bestOfTheSame();
        bestOfNone();
        bestIsOfLinksAlone();
        clockOnlyTicks();
        objectsAreApart();
        check.end();
    }

    /** Promise 1: "All boats are off" */
    private static void newBoatsAreOff() {
        DriftNet net = new DriftNet();
        for (int boat = 0; boat < 8; boat++) {
            int b = boat;
            check.same("off", net.off(b), false);
            check.illegalState("does not cast", () -> net.cast(b, false));
            check.same("no way to itself", net.best(b, b), -1);
            check.same("turned on", net.on(b), true);
        }
    }

    /** Promise 1: "no two linked" */
    private static void newBoatsAreNotLinked() {
        DriftNet net = new DriftNet();
        for (int a = 0; a < 8; a++) {
            for (int b = 0; b < a; b++) {
                check.same("not linked", net.link(a, b, false), false);
            }
            net.on(a);
        }
        for (int a = 0; a < 8; a++) {
            for (int b = 0; b < a; b++) {
                check.same("no way", net.best(a, b), -1);
            }
        }
    }

    /** "The one for itself has an even number, at first 0, the metric 0, and itself as next." */
    private static void newBoatsKnowThemselves() {
        DriftNet net = new DriftNet();
        for (int boat = 0; boat < 8; boat++) {
            check.same("itself", Nets.routes(net, boat, boat), boat + " 0 0 0 0 0 0");
            check.same("another", Nets.routes(net, boat, (boat + 3) % 8), "-1 -1 -1 -1 -1 0 0");
        }
    }

    private static void newNetIsEmpty() {
        DriftNet net = new DriftNet();
        check.same("the clock", net.clock(), 0);
        check.illegalArgument("no cast", () -> net.parts(0));
        check.illegalArgument("no packet", () -> net.move(0));
        for (int boat = 0; boat < 8; boat++) {
            int b = boat;
            check.same("none there", net.waiting(b), 0);
            check.outOfBounds("none got", () -> net.got(b, 0));
            check.same("no circle", net.circle(b), 0);
            check.same("none heard", net.two(b, (b + 1) % 8), false);
        }
    }

    /** Promise 2: "true; false if it is on" */
    private static void onAnswers() {
        DriftNet net = new DriftNet();
        for (int boat = 0; boat < 8; boat++) {
            check.same("on", net.on(boat), true);
            check.same("on again", net.on(boat), false);
            check.same("and again", net.on(boat), false);
            check.same("it casts", net.cast(boat, false), boat);
        }
        net.off(3);
        check.same("on after off", net.on(3), true);
        check.same("the others are on", net.on(2) || net.on(4), false);
    }

    /** Promise 3: "true; false if it is off" */
    private static void offAnswers() {
        DriftNet net = Nets.chain(8);
        for (int boat = 0; boat < 8; boat++) {
            int b = boat;
            check.same("off", net.off(b), true);
            check.same("off again", net.off(b), false);
            check.same("and again", net.off(b), false);
            check.illegalState("it does not cast", () -> net.cast(b, false));
            check.same("the next is on", b == 7 || !net.on(b + 1), true);
        }
    }

    /** Promise 2: "with its entries as they were" */
    private static void onKeepsEntries() {
        Tales tales = new Tales();
        tales.hear("2/2");
        Nets.ticks(tales.net, 2);
        tales.hear("2/1");
        tales.hear("4/2");
        check.same("before", tales.known(), "1 2 4 1 2 2 1");
        tales.net.off(7);
        check.same("while off", tales.known(), "1 2 4 1 2 2 1");
        tales.net.on(7);
        check.same("on again", tales.known(), "1 2 4 1 2 2 1");
        tales.net.cast(7, true);
        tales.net.off(7);
        tales.net.on(7);
        check.same("its own", Nets.routes(tales.net, 7, 7), "7 0 2 0 2 0 0");
    }

    private static void onKeepsAllElse() {
        DriftNet net = Nets.chain(2);
        Nets.tell(net, 0, true, 1);
        Nets.tell(net, 1, true, 0);
        net.send(1, 0, 5);
        net.send(1, 0, 6);
        net.move(0);
        for (int boat = 0; boat < 2; boat++) {
            net.off(boat);
            net.on(boat);
        }
        check.same("its links", net.best(0, 1), 1);
        check.same("whom it heard", net.two(0, 1), true);
        check.same("its packets", net.waiting(1), 1);
        check.same("its words", net.got(0, 0), 5);
        check.same("what it told", Nets.rows(net, net.cast(1, false)), "");
    }

    /** Promise 4: "whether that is another thing than before" */
    private static void linkAnswers() {
        DriftNet net = new DriftNet();
        for (int a = 0; a < 8; a++) {
            for (int b = 0; b < a; b++) {
                check.same("not linked, to be not", net.link(a, b, false), false);
                check.same("not linked, to be", net.link(a, b, true), true);
                check.same("linked, to be", net.link(a, b, true), false);
                check.same("linked, to be not", net.link(a, b, false), true);
                check.same("no more linked, to be not", net.link(a, b, false), false);
            }
        }
    }

    /** "Two boats are linked": none is the first of them. */
    private static void linkIsOfBoth() {
        DriftNet net = new DriftNet();
        check.same("linked", net.link(2, 5, true), true);
        check.same("the other way round", net.link(5, 2, true), false);
        check.same("not, the other way round", net.link(5, 2, false), true);
        check.same("not", net.link(2, 5, false), false);
        net.link(2, 5, true);
        check.same("others are not", net.link(2, 4, false) || net.link(5, 6, false) || net.link(3, 4, false), false);
    }

    private static void linkOfOffBoats() {
        DriftNet net = new DriftNet();
        check.same("both off", net.link(0, 7, true), true);
        net.on(0);
        check.same("one on", net.link(0, 7, true), false);
        net.on(7);
        check.same("both on", net.best(0, 7), 1);
        net.off(0);
        check.same("a link outlives off", net.link(0, 7, true), false);
    }

    /** Promise 17: "How many links the shortest way .. has": up to 7. */
    private static void bestInAChain() {
        DriftNet net = Nets.chain(8);
        for (int a = 0; a < 8; a++) {
            for (int b = 0; b < 8; b++) {
                check.same("in a chain", net.best(a, b), Math.abs(a - b));
            }
        }
    }

    /** "the shortest way" */
    private static void bestOfSeveral() {
        DriftNet net = Nets.chain(8);
        net.link(0, 7, true);
        check.same("round the other side", net.best(1, 6), 3);
        check.same("both sides as short", net.best(0, 4), 4);
        net.link(0, 7, false);
        net.link(1, 6, true);
        check.same("over a short cut", net.best(0, 7), 3);
        check.same("back over it", net.best(7, 0), 3);
        net.link(0, 7, true);
        check.same("one link", net.best(0, 7), 1);
    }

    /** "over boats that are on" */
    private static void bestOverOff() {
        DriftNet net = Nets.chain(8);
        net.link(1, 6, true);
        net.off(6);
        check.same("the short cut is off", net.best(0, 5), 5);
        check.same("past one that is off", net.best(0, 7), -1);
        net.on(6);
        net.off(3);
        check.same("round one that is off", net.best(2, 4), 4);
    }

    /** "(also if one of them is off)" */
    private static void bestOfOff() {
        DriftNet net = Nets.chain(3);
        net.off(1);
        check.same("to one that is off", net.best(0, 1), -1);
        check.same("from one that is off", net.best(1, 0), -1);
        net.off(0);
        check.same("both are off", net.best(0, 1), -1);
        check.same("the same one, off", net.best(0, 0), -1);
    }

    private static void bestOfTheSame() {
        DriftNet net = new DriftNet();
        net.on(4);
        check.same("without links", net.best(4, 4), 0);
        net.link(4, 5, true);
        check.same("with one", net.best(4, 4), 0);
    }

    /** "-1 if there is none" */
    private static void bestOfNone() {
        DriftNet net = Nets.chain(8);
        net.link(3, 4, false);
        check.same("over a cut", net.best(0, 7), -1);
        check.same("just at it", net.best(3, 4), -1);
        check.same("on one side", net.best(0, 3), 3);
        net.link(7, 0, true);
        check.same("round it", net.best(3, 4), 7);
    }

    /** It is about links, not about what boats have heard. */
    private static void bestIsOfLinksAlone() {
        Tales tales = new Tales();
        tales.hear("6/1");
        check.same("it knows a way", tales.net.route(7, 0, 0), 0);
        check.same("there is none", tales.net.best(7, 0), -1);
        check.same("it knows none", tales.net.route(0, 1, 0), -1);
        check.same("there is one", tales.net.best(0, 1), 1);
    }

    /** Promise 18. */
    private static void clockOnlyTicks() {
        DriftNet net = Nets.chain(3);
        for (int i = 1; i <= 20; i++) {
            check.same("tick", net.tick(), i);
            check.same("clock", net.clock(), i);
            Nets.tell(net, 0, true, 1);
            net.off(2);
            net.on(2);
            net.link(1, 2, i % 2 == 0);
            check.same("nothing else moves it", net.clock(), i);
        }
    }

    private static void objectsAreApart() {
        DriftNet busy = Nets.chain(8);
        Nets.tell(busy, 0, true, 1);
        busy.send(1, 0, 5);
        busy.move(0);
        busy.tick();
        DriftNet other = new DriftNet();
        check.same("its clock", other.clock(), 0);
        check.same("its boats", other.on(0), true);
        check.same("its links", other.link(0, 1, true), true);
        check.same("its casts", other.cast(0, false), 0);
        check.outOfBounds("its words", () -> other.got(0, 0));
    }
}
