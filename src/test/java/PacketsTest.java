/** Promises 12 to 15, and the terms PACKETS and TO MOVE. What these calls refuse stands in RefusedTest. */
public final class PacketsTest {
    private static final Check check = new Check();

    public static void main(String[] args) {
        numbersOfPackets();
        isAtTheFirst();
        anyWord();
        brokenEntryIsOne();
        goalMayBeOff();
        fourAtABoatToSend();
        sixteenUnderWay();
        movesOn();
        arrives();
        arrivedIsUnderWayNoMore();
        staysForABrokenEntry();
        staysForOff();
        staysForNotLinked();
        staysForABrokenEntryOfTheNext();
        staysForFourAtTheNext();
        fourAtTheGoalDoNotCount();
        staysForThirtyTwoWords();
        thirtyTwoWordsOnTheWayDoNotCount();
        staysAndTurnsElsewhere();
        greaterNumberGoesBack();
        lesserMetricGoesOn();
        stayingIsNoChange();
        waitingCounts();
        gotInTheirOrder();
        gotByOff();
        check.end();
    }

    /** A chain in which each boat knows the way to those before it. */
    private static DriftNet toldChain(int count) {
        DriftNet net = Nets.chain(count);
        for (int i = 0; i + 1 < count; i++) {
            Nets.tell(net, i, i == 0, i + 1);
        }
        return net;
    }

    /** "have the numbers 0, 1, ..": one count, also after some have arrived. */
    private static void numbersOfPackets() {
        DriftNet net = toldChain(3);
        for (int i = 0; i < 60; i += 2) {
            check.same("send", net.send(1, 0, 7), i);
            check.same("send from another", net.send(2, 1, 7), i + 1);
            check.same("arrives", net.move(i), -1);
            check.same("the other arrives", net.move(i + 1), -1);
        }
    }

    /** Promise 12: "it is at the first one" */
    private static void isAtTheFirst() {
        DriftNet net = toldChain(3);
        net.send(2, 0, 7);
        check.same("there", net.waiting(2), 1);
        check.same("not on the way", net.waiting(1), 0);
        check.same("not at the goal", net.waiting(0), 0);
    }

    private static void anyWord() {
        DriftNet net = toldChain(2);
        int[] words = {0, -1, 1, Integer.MIN_VALUE, Integer.MAX_VALUE};
        for (int i = 0; i < words.length; i++) {
            net.send(1, 0, words[i]);
            net.move(i);
            check.same("the word", net.got(0, i), words[i]);
        }
    }

    /** "has no entry for the other one": a broken one is an entry. */
    private static void brokenEntryIsOne() {
        DriftNet net = toldChain(2);
        Nets.ticks(net, 6);
        check.same("broken", net.route(1, 0, 0), -1);
        check.same("sent", net.send(1, 0, 5), 0);
        check.same("it stays", net.move(0), 1);
    }

    private static void goalMayBeOff() {
        DriftNet net = toldChain(2);
        net.off(0);
        check.same("sent", net.send(1, 0, 5), 0);
        net.on(0);
        net.link(0, 1, false);
        check.same("nor need it be linked", net.send(1, 0, 5), 1);
    }

    /** "At most 4 are at a boat." */
    private static void fourAtABoatToSend() {
        DriftNet net = toldChain(3);
        for (int i = 0; i < 4; i++) {
            check.same("send", net.send(2, i % 2, i), i);
        }
        check.illegalState("a fifth", () -> net.send(2, 0, 9));
        check.same("four are there", net.waiting(2), 4);
        check.same("from another boat", net.send(1, 0, 9), 4);
        check.same("one goes", net.move(1), -1);
        check.same("a fourth", net.send(2, 0, 9), 5);
        check.illegalState("a fifth again", () -> net.send(2, 0, 9));
    }

    /** "at most 16 under way" */
    private static void sixteenUnderWay() {
        DriftNet net = toldChain(6);
        for (int i = 0; i < 16; i++) {
            check.same("send", net.send(1 + i / 4, 0, 100 + i), i);
        }
        check.illegalState("a 17th", () -> net.send(5, 0, 1));
        check.same("none is there", net.waiting(5), 0);
        check.same("one arrives", net.move(3), -1);
        check.same("a 16th", net.send(5, 0, 1), 16);
        check.illegalState("a 17th again", () -> net.send(5, 0, 1));
        check.same("to move is no arrival", net.move(4), 1);
        check.illegalState("still", () -> net.send(5, 0, 1));
        for (int i : new int[] {0, 1, 2, 4}) {
            check.same("the others are there", net.move(i), -1);
        }
        check.same("their words", net.got(0, 0) + " " + net.got(0, 1) + " " + net.got(0, 4), "103 100 104");
    }

    /** Promise 13: "at which boat it is then" */
    private static void movesOn() {
        DriftNet net = toldChain(8);
        net.send(7, 0, 5);
        for (int at = 6; at > 0; at--) {
            check.same("moves", net.move(0), at);
            check.same("is there", net.waiting(at), 1);
            check.same("is where it was no more", net.waiting(at + 1), 0);
        }
        check.same("arrives", net.move(0), -1);
    }

    /** Promise 13: "-1 if its goal has got it" */
    private static void arrives() {
        DriftNet net = toldChain(2);
        net.send(1, 0, 5);
        check.outOfBounds("not got yet", () -> net.got(0, 0));
        check.same("arrives", net.move(0), -1);
        check.same("got", net.got(0, 0), 5);
        check.same("not by another", Check.answer(() -> net.got(1, 0)), "throws.IndexOutOfBoundsException");
    }

    private static void arrivedIsUnderWayNoMore() {
        DriftNet net = toldChain(3);
        net.send(1, 0, 5);
        net.send(2, 0, 6);
        net.move(0);
        check.same("at no boat", net.waiting(0) + net.waiting(1), 0);
        check.illegalArgument("not to be moved", () -> net.move(0));
        check.same("the other is", net.move(1), 1);
        check.same("its row is used again", net.send(1, 0, 7), 2);
        check.illegalArgument("its number is not", () -> net.move(0));
        check.same("the newer one arrives", net.move(2), -1);
        check.same("with its own word", net.got(0, 1), 7);
    }

    /** "it stays, if x has .. a broken one" */
    private static void staysForABrokenEntry() {
        DriftNet net = toldChain(3);
        net.send(2, 0, 7);
        Nets.ticks(net, 6);
        check.same("broken", net.move(0), 2);
        Nets.tell(net, 0, true, 1);
        check.same("broken here, whole there", net.move(0), 2);
        Nets.tell(net, 1, false, 2);
        check.same("whole", net.move(0), 1);
    }

    /** "if y is off" */
    private static void staysForOff() {
        DriftNet net = toldChain(3);
        net.send(2, 0, 7);
        net.off(0);
        net.off(1);
        check.same("the next is off", net.move(0), 2);
        net.on(1);
        check.same("on, the goal being off", net.move(0), 1);
        check.same("the goal is off", net.move(0), 1);
        net.on(0);
        check.same("on", net.move(0), -1);
    }

    /** "or x and y are not linked" */
    private static void staysForNotLinked() {
        DriftNet net = toldChain(3);
        net.send(2, 0, 7);
        net.link(1, 2, false);
        net.link(2, 0, true);
        check.same("not linked with the next, though with the goal", net.move(0), 2);
        net.link(2, 1, true);
        net.link(0, 1, false);
        check.same("linked", net.move(0), 1);
        check.same("not linked with the goal", net.move(0), 1);
        net.link(0, 1, true);
        check.same("linked with the goal", net.move(0), -1);
    }

    /** "or y has .. a broken one" */
    private static void staysForABrokenEntryOfTheNext() {
        DriftNet net = toldChain(3);
        Nets.ticks(net, 5);
        Nets.tell(net, 1, false, 2);
        net.tick();
        check.same("here it is whole", net.route(2, 0, 0), 1);
        check.same("there it is broken", net.route(1, 0, 0), -1);
        net.send(2, 0, 7);
        check.same("broken there", net.move(0), 2);
        Nets.tell(net, 0, true, 1);
        check.same("whole there", net.move(0), 1);
    }

    /** "or if 4 packets are at y, which is not the goal" */
    private static void staysForFourAtTheNext() {
        DriftNet net = toldChain(4);
        for (int i = 0; i < 4; i++) {
            net.send(2, 0, i);
        }
        net.send(3, 0, 4);
        check.same("4 are there", net.move(4), 3);
        check.same("one goes", net.move(1), 1);
        check.same("3 are there", net.move(4), 2);
        check.same("4 again", net.waiting(2), 4);
    }

    private static void fourAtTheGoalDoNotCount() {
        DriftNet net = toldChain(3);
        Nets.tell(net, 2, true, 1);
        Nets.tell(net, 1, true, 0);
        for (int i = 0; i < 4; i++) {
            net.send(0, 2, i);
        }
        check.same("4 are at the goal", net.waiting(0), 4);
        net.send(1, 0, 4);
        check.same("it arrives", net.move(4), -1);
        check.same("its word", net.got(0, 0), 4);
        check.same("4 are at the goal still", net.waiting(0), 4);
    }

    /** "or y is the goal and has got 32 words" */
    private static void staysForThirtyTwoWords() {
        DriftNet net = toldChain(3);
        for (int i = 0; i < 31; i++) {
            net.send(1, 0, 1000 - i);
            net.move(i);
        }
        net.send(1, 0, 5);
        net.send(1, 0, 6);
        check.same("a 32nd", net.move(32), -1);
        check.same("a 33rd stays", net.move(31), 1);
        check.same("it waits", net.waiting(1), 1);
        check.same("the 32nd word", net.got(0, 31), 6);
        check.outOfBounds("no 33rd", () -> net.got(0, 32));
        net.send(2, 0, 7);
        check.same("one moves on", net.move(33), 1);
        check.same("and stays before the goal", net.move(33), 1);
        net.send(2, 1, 8);
        check.same("another goal has room", net.move(34), -1);
        check.same("for words of its own", net.got(1, 0), 8);
    }

    private static void thirtyTwoWordsOnTheWayDoNotCount() {
        DriftNet net = toldChain(3);
        for (int i = 0; i < 32; i++) {
            net.send(2, 1, i);
            net.move(i);
        }
        check.same("it has got 32", net.got(1, 31), 31);
        net.send(2, 0, 7);
        check.same("over it to another goal", net.move(32), 1);
        check.same("and on", net.move(32), -1);
    }

    /** It goes to the next boat of the entry as it is now. */
    private static void staysAndTurnsElsewhere() {
        DriftNet net = Nets.mesh(4);
        int cast = net.cast(0, true);
        net.hear(cast, 0, 1, false);
        Nets.tell(net, 1, false, 3);
        net.send(3, 0, 7);
        net.off(1);
        check.same("over 1, which is off", net.move(0), 3);
        Nets.tell(net, 0, true, 2);
        Nets.tell(net, 2, false, 3);
        check.same("over 2", net.move(0), 2);
        check.same("arrives", net.move(0), -1);
    }

    /** "has not a greater number": with a greater one it goes, also to a metric that is not less, and back. */
    private static void greaterNumberGoesBack() {
        DriftNet net = Nets.mesh(4);
        Nets.tell(net, 0, true, 1);
        Nets.tell(net, 1, false, 2);
        Nets.tell(net, 2, false, 3);
        net.send(3, 0, 7);
        check.same("without a bound", net.move(0), 2);
        Nets.tell(net, 0, true, 3);
        Nets.tell(net, 3, false, 2);
        check.same("2 goes over 3", Nets.routes(net, 2, 0), "3 2 4 2 4 0 0");
        check.same("a greater number goes back", net.move(0), 3);
        check.same("the same number and a lesser metric", net.move(0), -1);
        check.same("the word", net.got(0, 0), 7);
    }

    /** "or the same one and a lesser metric" */
    private static void lesserMetricGoesOn() {
        DriftNet net = toldChain(4);
        net.send(3, 0, 7);
        check.same("its bound is 2, 2", net.move(0), 2);
        check.same("its bound is 2, 1", net.move(0), 1);
        check.same("2, 0 is the goal's", Nets.routes(net, 0, 0), "0 0 2 0 2 0 0");
        check.same("arrives", net.move(0), -1);
    }

    private static void stayingIsNoChange() {
        DriftNet net = toldChain(3);
        net.send(2, 0, 7);
        net.off(1);
        for (int i = 0; i < 5; i++) {
            check.same("stays", net.move(0), 2);
            check.same("there", net.waiting(2), 1);
        }
        net.on(1);
        check.same("then moves", net.move(0), 1);
    }

    /** Promise 14: "How many packets are at a boat." */
    private static void waitingCounts() {
        DriftNet net = toldChain(3);
        for (int i = 0; i < 4; i++) {
            check.same("so many", net.waiting(2), i);
            net.send(2, 0, i);
        }
        check.same("four", net.waiting(2), 4);
        net.off(2);
        check.same("at one that is off", net.waiting(2), 4);
        check.same("at others", net.waiting(0) + net.waiting(1) + net.waiting(7), 0);
    }

    /** Promise 15: "The k-th word that a boat has got." */
    private static void gotInTheirOrder() {
        DriftNet net = toldChain(3);
        net.send(1, 0, 11);
        net.send(1, 0, 12);
        net.send(1, 0, 13);
        for (int packet : new int[] {2, 0, 1}) {
            net.move(packet);
        }
        check.same("as they came", net.got(0, 0) + " " + net.got(0, 1) + " " + net.got(0, 2), "13 11 12");
        check.outOfBounds("it has got no more", () -> net.got(0, 3));
        check.outOfBounds("none before the first", () -> net.got(0, -1));
    }

    private static void gotByOff() {
        DriftNet net = toldChain(2);
        net.send(1, 0, 3);
        net.move(0);
        net.off(0);
        check.same("a word of one that is off", net.got(0, 0), 3);
        net.on(0);
        check.same("and on again", net.got(0, 0), 3);
    }
}
