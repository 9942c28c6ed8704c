/** Promises 9 to 11 and 16, and the term TICK. What waits stands in SettlingTest, what is refused in RefusedTest. */
public final class TicksTest {
    private static final Check check = new Check();

    public static void main(String[] args) {
        clockGrowsByOne();
        sixTicksAgo();
        moreThanSixTicksAgo();
        offBoatsForgetNothing();
        eachEntryOverTheSilent();
        severalAreSilentAtOnce();
        ownEntryIsNotLost();
        brokenIsNotLostAgain();
        notHeardAnyMoreIsHeardAgain();
        lostIsShown();
        routeOfNone();
        routeOfWhole();
        routeOfBroken();
        routeOfWaiting();
        twoHaveHeard();
        twoOfTheSame();
        twoForget();
        twoOfOffBoats();
        noCircle();
        check.end();
    }

    /** Promise 9: "A tick: the clock then." */
    private static void clockGrowsByOne() {
        DriftNet net = new DriftNet();
        for (int i = 1; i <= 50; i++) {
            check.same("all are off", net.tick(), i);
        }
        for (int i = 0; i < 8; i++) {
            net.on(i);
        }
        check.same("all are on", net.tick(), 51);
    }

    /** "of each boat that it heard 6 ticks ago or more": 5 are too few. */
    private static void sixTicksAgo() {
        for (int clock = 0; clock < 3; clock++) {
            DriftNet net = Nets.chain(2);
            Nets.ticks(net, clock);
            Nets.tell(net, 0, true, 1);
            for (int i = 1; i <= 5; i++) {
                net.tick();
                check.same(i + " ticks ago", Nets.routes(net, 1, 0), "0 1 2 1 2 0 0");
            }
            net.tick();
            check.same("6 ticks ago", Nets.routes(net, 1, 0), "-1 -1 3 -1 3 0 0");
        }
    }

    /** "or more": of a boat that was off meanwhile. */
    private static void moreThanSixTicksAgo() {
        for (int ago = 7; ago < 10; ago++) {
            DriftNet net = Nets.chain(2);
            Nets.tell(net, 0, true, 1);
            net.off(1);
            Nets.ticks(net, ago - 1);
            net.on(1);
            check.same("on again", Nets.routes(net, 1, 0), "0 1 2 1 2 0 0");
            net.tick();
            check.same(ago + " ticks ago", Nets.routes(net, 1, 0), "-1 -1 3 -1 3 0 0");
        }
    }

    /** "for each boat that is on" */
    private static void offBoatsForgetNothing() {
        DriftNet net = Nets.chain(3);
        Nets.tell(net, 0, true, 1);
        Nets.tell(net, 1, false, 0);
        Nets.tell(net, 1, false, 2);
        net.off(1);
        Nets.ticks(net, 9);
        check.same("one that is on", Nets.routes(net, 0, 1), "-1 -1 1 -1 1 0 0");
        check.same("one that is off", Nets.routes(net, 1, 0), "0 1 2 1 2 0 0");
        net.on(1);
        check.same("it has nothing else to tell", Nets.rows(net, net.cast(1, false)), "");
    }

    /** "each entry with that as next is LOST" */
    private static void eachEntryOverTheSilent() {
        DriftNet net = Nets.mesh(5);
        Nets.tell(net, 3, false, 1);
        Nets.tell(net, 4, false, 2);
        Nets.tell(net, 1, false, 0);
        net.tick();
        Nets.tell(net, 2, false, 0);
        Nets.ticks(net, 5);
        check.same("the silent one", Nets.routes(net, 0, 1), "-1 -1 1 -1 1 0 0");
        check.same("over the silent one", Nets.routes(net, 0, 3), "-1 -1 1 -1 1 0 0");
        check.same("another one", Nets.routes(net, 0, 2), "2 1 0 1 0 0 0");
        check.same("over another one", Nets.routes(net, 0, 4), "2 2 0 2 0 0 0");
        net.tick();
        check.same("another one, silent too", Nets.routes(net, 0, 2), "-1 -1 1 -1 1 0 0");
        check.same("over it", Nets.routes(net, 0, 4), "-1 -1 1 -1 1 0 0");
    }

    private static void severalAreSilentAtOnce() {
        DriftNet net = Nets.mesh(8);
        for (int i = 0; i < 8; i++) {
            int cast = net.cast(i, true);
            Nets.hearAll(net, cast, (i + 1) % 8);
            Nets.hearAll(net, cast, (i + 2) % 8);
        }
        Nets.ticks(net, 6);
        for (int boat = 0; boat < 8; boat++) {
            for (int goal = 0; goal < 8; goal++) {
                String due = boat == goal ? boat + " 0" : "-1 -1";
                check.same("all are lost", net.route(boat, goal, 0) + " " + net.route(boat, goal, 1), due);
                check.same("none have heard each other", net.two(boat, goal), false);
            }
        }
    }

    private static void ownEntryIsNotLost() {
        DriftNet net = Nets.mesh(3);
        Nets.tell(net, 0, true, 1);
        Nets.tell(net, 1, true, 0);
        Nets.ticks(net, 20);
        check.same("its own", Nets.routes(net, 0, 0), "0 0 2 0 2 0 0");
        check.same("nor of one that heard none", Nets.routes(net, 2, 2), "2 0 0 0 0 0 0");
    }

    private static void brokenIsNotLostAgain() {
        DriftNet net = Nets.chain(2);
        int cast = net.cast(0, true);
        net.hear(cast, 0, 1, false);
        Nets.ticks(net, 6);
        check.same("lost", net.route(1, 0, 2), 3);
        check.same("heard again, nothing new", net.hear(cast, 0, 1, false), 0);
        Nets.ticks(net, 20);
        check.same("not lost twice", Nets.routes(net, 1, 0), "-1 -1 3 -1 3 0 0");
        Tales tales = new Tales();
        tales.hear("4/2");
        tales.hear("5/B");
        Nets.ticks(tales.net, 9);
        check.same("nor one that was taken as broken", tales.known(), "-1 -1 5 -1 5 0 0");
    }

    /** "it has not heard any more" */
    private static void notHeardAnyMoreIsHeardAgain() {
        DriftNet net = Nets.chain(2);
        Nets.tell(net, 0, true, 1);
        Nets.ticks(net, 8);
        check.same("heard again", Nets.tell(net, 0, true, 1), 1);
        Nets.ticks(net, 5);
        check.same("5 ticks since", Nets.routes(net, 1, 0), "0 1 4 1 4 0 0");
        net.tick();
        check.same("6 ticks since", Nets.routes(net, 1, 0), "-1 -1 5 -1 5 0 0");
    }

    /** "its number grows by 1, it is BROKEN, the shown one becomes the same" */
    private static void lostIsShown() {
        DriftNet net = Nets.chain(2);
        Nets.tell(net, 0, false, 1);
        net.cast(1, false);
        Nets.ticks(net, 6);
        check.same("0 and 1 more", Nets.routes(net, 1, 0), "-1 -1 1 -1 1 0 0");
        check.same("told", Nets.rows(net, net.cast(1, false)), "0:1:-1");
    }

    /** Promise 10: "(-1 if there is none ..)"; mean and waiting are 0. */
    private static void routeOfNone() {
        DriftNet net = new DriftNet();
        for (int boat = 0; boat < 8; boat++) {
            for (int goal = 0; goal < 8; goal++) {
                if (goal != boat) {
                    check.same("none", Nets.routes(net, boat, goal), "-1 -1 -1 -1 -1 0 0");
                }
            }
        }
    }

    private static void routeOfWhole() {
        Tales tales = new Tales();
        tales.hear("4/3");
        check.same("whole", tales.known(), "2 3 4 3 4 0 0");
        Nets.ticks(tales.net, 2);
        tales.hear("4/2");
        check.same("with a mean", tales.known(), "1 2 4 2 4 2 0");
        check.same("of itself", Nets.routes(tales.net, 7, 7), "7 0 0 0 0 0 0");
    }

    /** Promise 10: "(.. or it is BROKEN)": the numbers are there. */
    private static void routeOfBroken() {
        Tales tales = new Tales();
        tales.hear("4/3");
        tales.hear("5/B");
        check.same("broken", tales.known(), "-1 -1 5 -1 5 0 0");
        Nets.ticks(tales.net, 6);
        check.same("still", tales.known(), "-1 -1 5 -1 5 0 0");
    }

    /** Promise 10: "6: 1 if it waits, else 0"; the shown one is another one then. */
    private static void routeOfWaiting() {
        Tales tales = new Tales();
        tales.hear("2/2");
        Nets.ticks(tales.net, 3);
        tales.hear("2/1");
        tales.hear("4/3");
        check.same("waits", tales.known(), "2 3 4 1 2 3 1");
        tales.net.off(7);
        check.same("while off", tales.known(), "2 3 4 1 2 3 1");
    }

    /** Promise 11: "have heard each other" */
    private static void twoHaveHeard() {
        DriftNet net = Nets.chain(3);
        check.same("neither", net.two(0, 1), false);
        Nets.tell(net, 0, false, 1);
        check.same("the second the first", net.two(0, 1), false);
        check.same("the first the second", net.two(1, 0), false);
        Nets.tell(net, 1, false, 0);
        check.same("both", net.two(0, 1), true);
        check.same("both, told the other way round", net.two(1, 0), true);
        check.same("not others", net.two(1, 2), false);
        Nets.tell(net, 1, true, 2);
        check.same("nor those that know a way over another", net.two(0, 2), false);
        net.link(0, 1, false);
        check.same("links do not count", net.two(0, 1), true);
    }

    /** "(false for the same one)" */
    private static void twoOfTheSame() {
        DriftNet net = Nets.mesh(8);
        for (int boat = 0; boat < 8; boat++) {
            check.same("before", net.two(boat, boat), false);
            Nets.tell(net, boat, true, (boat + 1) % 8);
            Nets.tell(net, (boat + 1) % 8, true, boat);
        }
        for (int boat = 0; boat < 8; boat++) {
            check.same("after", net.two(boat, boat), false);
            check.same("two others", net.two(boat, (boat + 1) % 8), true);
        }
    }

    private static void twoForget() {
        DriftNet net = Nets.chain(2);
        Nets.tell(net, 0, false, 1);
        net.tick();
        Nets.tell(net, 1, false, 0);
        Nets.ticks(net, 4);
        check.same("5 and 4 ticks ago", net.two(0, 1), true);
        net.tick();
        check.same("6 and 5 ticks ago", net.two(0, 1), false);
        check.same("the other way round", net.two(1, 0), false);
        Nets.tell(net, 0, false, 1);
        check.same("heard again", net.two(0, 1), true);
        net.tick();
        check.same("1 and 6 ticks ago", net.two(0, 1), false);
    }

    private static void twoOfOffBoats() {
        DriftNet net = Nets.chain(2);
        Nets.tell(net, 0, false, 1);
        Nets.tell(net, 1, false, 0);
        net.off(0);
        net.off(1);
        Nets.ticks(net, 9);
        check.same("off boats forget nothing", net.two(0, 1), true);
        net.on(0);
        check.same("on again", net.two(0, 1), true);
        net.tick();
        check.same("one forgets", net.two(0, 1), false);
    }

    /** Promise 16: "0 if there are none"; "(the goal itself aside)", whose next is itself. */
    private static void noCircle() {
        DriftNet none = new DriftNet();
        DriftNet net = Nets.chain(8);
        for (int i = 0; i < 7; i++) {
            Nets.tell(net, i, true, i + 1);
        }
        for (int i = 7; i > 0; i--) {
            Nets.tell(net, i, true, i - 1);
        }
        for (int goal = 0; goal < 8; goal++) {
            check.same("no entries", none.circle(goal), 0);
            check.same("ways that end at the goal", net.circle(goal), 0);
        }
        net.off(3);
        Nets.ticks(net, 6);
        for (int goal = 0; goal < 8; goal++) {
            check.same("broken ones, but for those of a boat that is off", net.circle(goal), 0);
        }
    }
}
