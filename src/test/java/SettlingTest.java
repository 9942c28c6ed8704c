/** The term SETTLING, and what a tick does with entries that wait. */
public final class SettlingTest {
    private static final Check check = new Check();

    public static void main(String[] args) {
        atFirstZero();
        firstWhenThereWasNone();
        firstOfAnotherNumber();
        firstOfAWholeOneAfterABrokenOne();
        firstStaysWithTheSameNumber();
        meanOfTheSameClock();
        meanRoundedDown();
        meanStaysWithAnotherNumber();
        meanOfEachGoal();
        brokenAtOnce();
        brokenEndsWaiting();
        noneShownAtOnce();
        overBrokenAtOnce();
        asNearAtOnce();
        nearerAtOnce();
        meanZeroAtOnce();
        meanFallsToZero();
        waitsFromNowOn();
        waitsStillWithAnotherNumber();
        waitsStillWithTheSameNumber();
        asNearEndsWaiting();
        tickJustNotYet();
        tickJustTwice();
        tickOddMean();
        tickOfALaterFirst();
        tickOfAGreaterMean();
        tickOfSeveral();
        offBoatsDoNotSettle();
        lostEndsWaiting();
        shownWayMayBeSilent();
        waitingIsNotTold();
        check.end();
    }

    /** Boat 7 has 2/1 with that mean: it heard 2/2, and 2/1 that many ticks later. */
    private static Tales withMean(int mean) {
        Tales tales = new Tales();
        tales.hear("2/2");
        tales.ticksHearing(mean, "2/2");
        tales.hear("2/1");
        check.same("it has that mean", tales.known(), "0 1 2 1 2 " + mean + " 0");
        return tales;
    }

    /** "a MEAN, at first 0" */
    private static void atFirstZero() {
        Tales tales = new Tales();
        check.same("no entry", tales.known(), "-1 -1 -1 -1 -1 0 0");
        tales.hear("2/2");
        check.same("an entry", tales.known(), "1 2 2 2 2 0 0");
        check.same("its own", Nets.routes(tales.net, 7, 7), "7 0 0 0 0 0 0");
    }

    /** "(or there was none)": first is the clock 18 then, not 0. */
    private static void firstWhenThereWasNone() {
        Tales tales = new Tales();
        tales.hear("2/2");
        Nets.ticks(tales.net, 2);
        tales.hear("2/1");
        check.same("2 ticks, not 20", tales.known(), "0 1 2 1 2 2 0");
    }

    /** "When what is taken has another number than the entry before", "first is the clock" */
    private static void firstOfAnotherNumber() {
        Tales tales = new Tales();
        tales.hear("2/2");
        Nets.ticks(tales.net, 3);
        tales.hear("4/2");
        check.same("another number is not for the mean", tales.known(), "1 2 4 2 4 0 0");
        Nets.ticks(tales.net, 1);
        tales.hear("4/1");
        check.same("1 tick, not 4", tales.known(), "0 1 4 1 4 1 0");
    }

    private static void firstOfAWholeOneAfterABrokenOne() {
        Tales tales = new Tales();
        tales.hear("2/2");
        Nets.ticks(tales.net, 2);
        tales.hear("3/B");
        Nets.ticks(tales.net, 2);
        tales.hear("4/2");
        Nets.ticks(tales.net, 3);
        tales.hear("4/1");
        check.same("3 ticks", tales.known(), "0 1 4 1 4 3 0");
    }

    /** "When it has the same number, mean becomes ..": twice, both times from the same first. */
    private static void firstStaysWithTheSameNumber() {
        Tales tales = new Tales();
        tales.hear("2/3");
        Nets.ticks(tales.net, 2);
        tales.hear("2/2");
        check.same("2 ticks", tales.known(), "1 2 2 2 2 2 0");
        Nets.ticks(tales.net, 3);
        tales.hear("2/1");
        check.same("3 times 2 and 4 times 5, by 4", tales.known(), "0 1 2 1 2 6 0");
    }

    private static void meanOfTheSameClock() {
        Tales tales = new Tales();
        tales.hear("2/3");
        tales.hear("2/2");
        tales.hear("2/1");
        check.same("no tick between", tales.known(), "0 1 2 1 2 0 0");
    }

    /** "all divided by 4, rounded down" */
    private static void meanRoundedDown() {
        String[] numbers = {"4", "6"};
        int[][] due = {{3, 2, 1}, {5, 3, 2}, {6, 4, 3}, {1, 0, 0}, {2, 1, 0}, {4, 3, 2}};
        for (int[] means : due) {
            Tales tales = withMean(means[0]);
            for (int i = 0; i < 2; i++) {
                tales.hear(numbers[i] + "/2");
                tales.hear(numbers[i] + "/1");
                check.same("3 times the mean, by 4", tales.net.route(7, 0, 5), means[i + 1]);
            }
        }
        Tales tales = withMean(5);
        tales.hear("4/2");
        tales.ticksHearing(2, "4/2");
        tales.hear("4/1");
        check.same("3 times 5 and 4 times 2, by 4", tales.net.route(7, 0, 5), 5);
    }

    private static void meanStaysWithAnotherNumber() {
        Tales tales = withMean(3);
        tales.hear("4/1");
        check.same("whole", tales.known(), "0 1 4 1 4 3 0");
        tales.hear("5/B");
        check.same("broken", tales.known(), "-1 -1 5 -1 5 3 0");
        tales.hear("6/1");
        check.same("whole again", tales.known(), "0 1 6 1 6 3 0");
        Nets.ticks(tales.net, 6);
        check.same("lost", tales.known(), "-1 -1 7 -1 7 3 0");
    }

    /** "Of each goal a boat has a time FIRST, and a MEAN" */
    private static void meanOfEachGoal() {
        DriftNet net = Nets.mesh(4);
        int near = net.cast(0, true);
        net.hear(near, 0, 1, false);
        Nets.tell(net, 1, false, 2);
        Nets.tell(net, 2, false, 3);
        Nets.ticks(net, 3);
        net.hear(near, 0, 3, false);
        check.same("goal 0", Nets.routes(net, 3, 0), "0 1 2 1 2 3 0");
        check.same("goal 1", Nets.routes(net, 3, 1), "2 2 0 2 0 0 0");
        check.same("goal 0 of another boat", Nets.routes(net, 2, 0), "1 2 2 2 2 0 0");
        net.tick();
        Nets.hearAll(net, 1, 3);
        check.same("goal 1 then", Nets.routes(net, 3, 1), "1 1 0 1 0 4 0");
    }

    /** "the shown entry becomes the same at once .. if it is BROKEN": the shown one is whole, the mean not 0. */
    private static void brokenAtOnce() {
        Tales tales = withMean(3);
        tales.hear("3/B");
        check.same("broken", tales.known(), "-1 -1 3 -1 3 3 0");
    }

    private static void brokenEndsWaiting() {
        Tales tales = withMean(3);
        tales.hear("4/2");
        check.same("waits", tales.known(), "1 2 4 1 2 3 1");
        tales.hear("5/B");
        check.same("broken", tales.known(), "-1 -1 5 -1 5 3 0");
        Nets.ticks(tales.net, 5);
        check.same("later", tales.known(), "-1 -1 5 -1 5 3 0");
    }

    /** "or there was no shown one" */
    private static void noneShownAtOnce() {
        for (String name : new String[] {"2/1", "2/2", "2/3"}) {
            Tales tales = new Tales();
            tales.hear(name);
            String metric = name.substring(2);
            check.same("the first", tales.net.route(7, 0, 3) + "/" + tales.net.route(7, 0, 4), metric + "/2");
            check.same("does not wait", tales.net.route(7, 0, 6), 0);
        }
    }

    /** "or that is BROKEN": the mean is not 0. */
    private static void overBrokenAtOnce() {
        for (String name : new String[] {"4/1", "4/2", "4/3"}) {
            Tales tales = withMean(3);
            tales.hear("3/B");
            tales.hear(name);
            String metric = name.substring(2);
            check.same("over a broken one", tales.net.route(7, 0, 3) + "/" + tales.net.route(7, 0, 4), metric + "/4");
            check.same("does not wait", tales.net.route(7, 0, 6), 0);
        }
        Tales lost = withMean(3);
        Nets.ticks(lost.net, 6);
        check.same("lost", lost.known(), "-1 -1 3 -1 3 3 0");
        lost.hear("4/3");
        check.same("over a lost one", lost.known(), "2 3 4 3 4 3 0");
    }

    /** "or the metric is not above the shown one's": the same one, with a greater number and a mean. */
    private static void asNearAtOnce() {
        Tales tales = withMean(3);
        tales.hear("4/1");
        check.same("as near", tales.known(), "0 1 4 1 4 3 0");
    }

    private static void nearerAtOnce() {
        Tales tales = new Tales();
        tales.hear("2/3");
        Nets.ticks(tales.net, 2);
        tales.hear("2/2");
        tales.hear("4/1");
        check.same("nearer, another number", tales.known(), "0 1 4 1 4 2 0");
        Tales same = new Tales();
        same.hear("2/3");
        Nets.ticks(same.net, 2);
        same.hear("2/2");
        same.hear("2/1");
        check.same("nearer, the same number", same.known(), "0 1 2 1 2 3 0");
    }

    /** "or mean is 0": the metric is above the shown one's. */
    private static void meanZeroAtOnce() {
        Tales tales = new Tales();
        tales.hear("2/1");
        tales.hear("4/3");
        check.same("further", tales.known(), "2 3 4 3 4 0 0");
        Tales one = withMean(1);
        one.hear("4/3");
        check.same("further, with a mean of 1", one.known(), "2 3 4 1 2 1 1");
    }

    /** The mean that counts is that after what was taken. */
    private static void meanFallsToZero() {
        Tales tales = withMean(1);
        tales.hear("4/3");
        check.same("waits", tales.known(), "2 3 4 1 2 1 1");
        tales.hear("4/2");
        check.same("above the shown one still, but the mean is 0", tales.known(), "1 2 4 2 4 0 0");
    }

    /** "Otherwise the entry WAITS (.. from now on)" */
    private static void waitsFromNowOn() {
        Tales tales = withMean(3);
        check.same("before", tales.net.route(7, 0, 6), 0);
        tales.hear("4/2");
        check.same("one further", tales.known(), "1 2 4 1 2 3 1");
        Tales far = withMean(3);
        far.hear("4/3");
        check.same("two further", far.known(), "2 3 4 1 2 3 1");
    }

    /** "(still ..)" */
    private static void waitsStillWithAnotherNumber() {
        Tales tales = withMean(3);
        tales.hear("4/2");
        tales.hear("6/3");
        check.same("waits still", tales.known(), "2 3 6 1 2 3 1");
    }

    private static void waitsStillWithTheSameNumber() {
        Tales tales = withMean(6);
        tales.hear("4/3");
        Nets.ticks(tales.net, 1);
        tales.hear("4/2");
        check.same("3 times 6 and 4 times 1, by 4", tales.known(), "1 2 4 1 2 5 1");
        tales.hear("4/2");
        check.same("what is not taken changes nothing", tales.known(), "1 2 4 1 2 5 1");
    }

    private static void asNearEndsWaiting() {
        Tales same = withMean(3);
        same.hear("4/2");
        same.hear("4/1");
        check.same("the same number", same.known(), "0 1 4 1 4 2 0");
        Tales other = withMean(3);
        other.hear("4/2");
        other.hear("6/1");
        check.same("another number", other.known(), "0 1 6 1 6 3 0");
        Nets.ticks(other.net, 3);
        check.same("later", other.known(), "0 1 6 1 6 3 0");
    }

    /** "if 4 times (clock less first) is at least twice the mean": with 5, not after 2 ticks, but after 3. */
    private static void tickJustNotYet() {
        Tales tales = withMean(5);
        tales.hear("4/2");
        Nets.ticks(tales.net, 2);
        check.same("8 is less than 10", tales.known(), "1 2 4 1 2 5 1");
        tales.net.tick();
        check.same("12 is not", tales.known(), "1 2 4 2 4 5 0");
        tales.net.tick();
        check.same("and so it stays", tales.known(), "1 2 4 2 4 5 0");
    }

    /** "at least": just twice is enough. */
    private static void tickJustTwice() {
        for (int mean = 2; mean <= 8; mean += 2) {
            Tales tales = withMean(mean);
            tales.hear("4/2");
            Nets.ticks(tales.net, mean / 2 - 1);
            check.same("one tick less", tales.known(), "1 2 4 1 2 " + mean + " 1");
            tales.net.tick();
            check.same("just twice the mean", tales.known(), "1 2 4 2 4 " + mean + " 0");
        }
    }

    private static void tickOddMean() {
        for (int mean = 1; mean <= 9; mean += 2) {
            Tales tales = withMean(mean);
            tales.hear("4/2");
            Nets.ticks(tales.net, mean / 2);
            check.same("less than twice", tales.known(), "1 2 4 1 2 " + mean + " 1");
            tales.net.tick();
            check.same("more than twice", tales.known(), "1 2 4 2 4 " + mean + " 0");
        }
    }

    private static void tickOfALaterFirst() {
        Tales tales = withMean(6);
        tales.hear("4/2");
        Nets.ticks(tales.net, 2);
        tales.hear("6/2");
        Nets.ticks(tales.net, 2);
        check.same("first is that of the later number", tales.known(), "1 2 6 1 2 6 1");
        tales.net.tick();
        check.same("shown", tales.known(), "1 2 6 2 6 6 0");
    }

    /** The mean may change while the entry waits; first does not. */
    private static void tickOfAGreaterMean() {
        Tales tales = withMean(4);
        tales.hear("4/3");
        Nets.ticks(tales.net, 1);
        tales.hear("4/2");
        check.same("3 times 4 and 4 times 1, by 4", tales.known(), "1 2 4 1 2 4 1");
        tales.net.tick();
        check.same("2 ticks after the first of that number", tales.known(), "1 2 4 2 4 4 0");
    }

    /** "each entry that waits": of several boats, and several of one. */
    private static void tickOfSeveral() {
        DriftNet net = Nets.mesh(5);
        int zero = net.cast(0, true);
        int one = net.cast(1, true);
        net.hear(zero, 0, 2, false);
        net.hear(one, 0, 2, false);
        int over2 = net.cast(2, false);
        net.hear(over2, 0, 3, false);
        net.hear(over2, 0, 4, false);
        Nets.ticks(net, 2);
        for (int boat = 3; boat <= 4; boat++) {
            net.hear(zero, 0, boat, false);
            net.hear(one, 0, boat, false);
        }
        Nets.tell(net, 0, true, 2);
        Nets.tell(net, 1, true, 2);
        int again = net.cast(2, false);
        net.hear(again, 0, 3, false);
        net.hear(again, 0, 4, false);
        for (int boat = 3; boat <= 4; boat++) {
            check.same("waits for 0", Nets.routes(net, boat, 0), "2 2 4 1 2 2 1");
            check.same("waits for 1", Nets.routes(net, boat, 1), "2 2 4 1 2 2 1");
        }
        net.tick();
        for (int boat = 3; boat <= 4; boat++) {
            check.same("shows 0", Nets.routes(net, boat, 0), "2 2 4 2 4 2 0");
            check.same("shows 1", Nets.routes(net, boat, 1), "2 2 4 2 4 2 0");
        }
        check.same("both are news", Nets.rows(net, net.cast(3, false)).substring(0, 11), "0:4:2 1:4:2");
    }

    /** "for each boat that is on" */
    private static void offBoatsDoNotSettle() {
        Tales tales = withMean(3);
        tales.hear("4/2");
        tales.net.off(7);
        Nets.ticks(tales.net, 4);
        check.same("waits while off", tales.known(), "1 2 4 1 2 3 1");
        tales.net.on(7);
        check.same("waits when on again", tales.known(), "1 2 4 1 2 3 1");
        tales.net.tick();
        check.same("shown at the tick after", tales.known(), "1 2 4 2 4 3 0");
    }

    /** "LOST: .. the shown one becomes the same, and it does not wait" */
    private static void lostEndsWaiting() {
        Tales tales = withMean(20);
        tales.hear("4/2");
        Nets.ticks(tales.net, 5);
        check.same("waits", tales.known(), "1 2 4 1 2 20 1");
        tales.net.tick();
        check.same("lost", tales.known(), "-1 -1 5 -1 5 20 0");
        Nets.ticks(tales.net, 6);
        check.same("later", tales.known(), "-1 -1 5 -1 5 20 0");
    }

    /** "each entry with that as next": the next of the entry that waits, not of the one shown before. */
    private static void shownWayMayBeSilent() {
        Tales tales = withMean(20);
        tales.hear("4/2");
        tales.ticksHearing(6, "4/2");
        check.same("0 is silent, 1 is not", tales.known(), "1 2 4 1 2 20 1");
        tales.ticksHearing(4, "4/2");
        check.same("shown in the end", tales.known(), "1 2 4 2 4 20 0");
    }

    private static void waitingIsNotTold() {
        Tales tales = withMean(3);
        check.same("the first cast", Nets.rows(tales.net, tales.net.cast(7, false)), "0:2:1 7:0:0");
        tales.hear("4/2");
        check.same("what waits is not told", Nets.rows(tales.net, tales.net.cast(7, false)), "");
        check.same("nor in a full cast", Nets.rows(tales.net, tales.net.cast(7, true)), "0:2:1 7:2:0");
        Nets.ticks(tales.net, 2);
        check.same("when shown it is", Nets.rows(tales.net, tales.net.cast(7, false)), "0:4:2");
        check.same("once", Nets.rows(tales.net, tales.net.cast(7, false)), "");
    }
}
