/** Promises 12 to 15: send, move, waiting and got. */
public final class PacketsTest {
    private static final Check check = new Check();

    public static void main(String[] args) {
        sendAndMove();
        sendWrong();
        sendThrowsChangesNothing();
        sixteenUnderWay();
        moveWrong();
        staysWithoutEntry();
        staysForOffAndUnlinked();
        staysForNextWithoutEntry();
        greaterNumberGoesBack();
        fourAtABoat();
        goalTakesAFifth();
        gotThirtyTwo();
        waitingAndGotWrong();
        check.end();
    }

    /** A chain in which each boat knows the way to boat 0. */
    private static DriftNet toldChain(int count) {
        DriftNet net = Nets.chain(count);
        for (int i = 0; i + 1 < count; i++) {
            Nets.tell(net, i, i == 0, i + 1);
        }
        return net;
    }

    private static void sendAndMove() {
        DriftNet net = toldChain(4);
        check.same("send", net.send(3, 0, Integer.MIN_VALUE), 0);
        check.same("send another", net.send(2, 0, -1), 1);
        check.same("at the first", net.waiting(3), 1);
        check.same("at the second", net.waiting(2), 1);
        check.same("moves", net.move(0), 2);
        check.same("is there no more", net.waiting(3), 0);
        check.same("is here", net.waiting(2), 2);
        check.same("moves on", net.move(0), 1);
        check.same("arrives", net.move(0), -1);
        check.same("is nowhere", net.waiting(1) + net.waiting(0), 0);
        check.same("the word", net.got(0, 0), Integer.MIN_VALUE);
        check.illegalArgument("under way no more", () -> net.move(0));
        net.move(1);
        net.move(1);
        check.same("the second word", net.got(0, 1), -1);
        check.same("numbers go on", net.send(1, 0, 3), 2);
    }

    private static void sendWrong() {
        DriftNet net = toldChain(3);
        int[][] wrong = {{-1, 0}, {0, -1}, {8, 0}, {0, 8}, {1, 1}, {7, 7}};
        for (int[] pair : wrong) {
            check.illegalArgument("send " + pair[0] + ", " + pair[1], () -> net.send(pair[0], pair[1], 1));
        }
        check.illegalState("no entry", () -> net.send(0, 1, 1));
        net.off(1);
        check.illegalState("off", () -> net.send(1, 0, 1));
        check.illegalArgument("the goal goes before off", () -> net.send(1, 8, 1));
        check.illegalArgument("the same goes before off", () -> net.send(1, 1, 1));
        net.on(1);
        Nets.ticks(net, 6);
        check.same("a broken entry is one", net.route(1, 0, 0), -1);
        check.same("so it may be sent", net.send(1, 0, 5), 0);
        net.off(0);
        check.same("the goal may be off", net.send(1, 0, 5), 1);
    }

    private static void sendThrowsChangesNothing() {
        DriftNet net = toldChain(2);
        check.illegalState("no entry", () -> net.send(0, 1, 1));
        net.off(1);
        check.illegalState("off", () -> net.send(1, 0, 1));
        net.on(1);
        check.same("none is there", net.waiting(0) + net.waiting(1), 0);
        for (int i = 0; i < 4; i++) {
            check.same("the numbers from 0 on", net.send(1, 0, i), i);
        }
        check.illegalState("4 are there", () -> net.send(1, 0, 9));
        check.same("4 are there", net.waiting(1), 4);
        check.same("one goes", net.move(2), -1);
        check.same("the next number", net.send(1, 0, 9), 4);
        check.illegalArgument("none beyond", () -> net.move(5));
    }

    private static void sixteenUnderWay() {
        DriftNet net = toldChain(6);
        for (int i = 0; i < 16; i++) {
            check.same("send", net.send(1 + i / 4, 0, 100 + i), i);
        }
        check.same("none is at the last", net.waiting(5), 0);
        check.illegalState("16 under way", () -> net.send(5, 0, 1));
        check.same("none is there still", net.waiting(5), 0);
        check.same("one arrives", net.move(3), -1);
        check.same("one more may go", net.send(5, 0, 1), 16);
        check.illegalState("16 under way again", () -> net.send(5, 0, 1));
        check.same("the others are there", net.move(0), -1);
        check.same("the words, as they came", net.got(0, 0) * 1000 + net.got(0, 1), 103100);
    }

    private static void moveWrong() {
        DriftNet net = toldChain(2);
        check.illegalArgument("none yet", () -> net.move(0));
        check.illegalArgument("-1", () -> net.move(-1));
        net.send(1, 0, 7);
        check.illegalArgument("1", () -> net.move(1));
        check.illegalArgument("-1 still", () -> net.move(-1));
        net.off(1);
        check.illegalState("its boat is off", () -> net.move(0));
        check.illegalArgument("no packet, its boat being off", () -> net.move(1));
        check.same("it is there still", net.waiting(1), 1);
        check.outOfBounds("nothing came", () -> net.got(0, 0));
        net.on(1);
        check.same("now it goes", net.move(0), -1);
    }

    private static void staysWithoutEntry() {
        DriftNet net = toldChain(3);
        net.send(2, 0, 7);
        Nets.ticks(net, 6);
        check.same("broken here", net.move(0), 2);
        Nets.tell(net, 0, true, 1);
        Nets.tell(net, 1, false, 2);
        check.same("whole again", net.move(0), 1);
    }

    private static void staysForOffAndUnlinked() {
        DriftNet net = toldChain(2);
        net.send(1, 0, 7);
        net.off(0);
        check.same("the next is off", net.move(0), 1);
        net.on(0);
        net.link(0, 1, false);
        check.same("not linked", net.move(0), 1);
        net.link(0, 1, true);
        check.same("linked", net.move(0), -1);
    }

    private static void staysForNextWithoutEntry() {
        DriftNet net = toldChain(3);
        Nets.ticks(net, 5);
        Nets.tell(net, 1, false, 2);
        net.tick();
        check.same("here it is whole", net.route(2, 0, 0), 1);
        check.same("there it is broken", net.route(1, 0, 0), -1);
        net.send(2, 0, 7);
        check.same("broken there", net.move(0), 2);
        Nets.tell(net, 0, true, 1);
        check.same("whole there", net.move(0), 1);
    }

    private static void greaterNumberGoesBack() {
        DriftNet net = Nets.mesh(4);
        Nets.tell(net, 0, true, 1);
        Nets.tell(net, 1, false, 2);
        Nets.tell(net, 2, false, 3);
        net.send(3, 0, 7);
        check.same("without a bound", net.move(0), 2);
        Nets.tell(net, 0, true, 3);
        Nets.tell(net, 3, false, 2);
        check.same("2 goes over 3, of the same metric", Nets.routes(net, 2, 0), "3 2 4 2 4 0 0");
        check.same("a greater number goes back", net.move(0), 3);
        check.same("the same number and a lesser metric", net.move(0), -1);
        check.same("the word", net.got(0, 0), 7);
    }

    private static void fourAtABoat() {
        DriftNet net = toldChain(4);
        for (int i = 0; i < 4; i++) {
            net.send(2, 0, i);
        }
        net.send(3, 0, 4);
        check.same("4 are at the next", net.move(4), 3);
        check.same("one goes", net.move(1), 1);
        check.same("3 are at the next", net.move(4), 2);
        check.same("4 again", net.waiting(2), 4);
    }

    private static void goalTakesAFifth() {
        DriftNet net = toldChain(3);
        for (int i = 0; i < 4; i++) {
            Nets.tell(net, 2, true, 1);
            Nets.tell(net, 1, true, 0);
            net.send(0, 2, i);
        }
        check.same("4 are at the goal", net.waiting(0), 4);
        net.send(1, 0, 4);
        check.same("the goal takes one more", net.move(4), -1);
        check.same("its word", net.got(0, 0), 4);
        check.same("4 are at the goal still", net.waiting(0), 4);
    }

    private static void gotThirtyTwo() {
        DriftNet net = toldChain(3);
        for (int i = 0; i < 32; i++) {
            net.send(1, 0, 1000 - i);
            check.same("arrives", net.move(i), -1);
        }
        for (int i = 0; i < 32; i++) {
            check.same("the words in their order", net.got(0, i), 1000 - i);
        }
        net.send(1, 0, 5);
        check.same("no room for a 33rd", net.move(32), 1);
        check.same("it waits", net.waiting(1), 1);
        check.outOfBounds("no 33rd", () -> net.got(0, 32));
        check.same("the last is as it was", net.got(0, 31), 969);
        net.send(2, 0, 6);
        check.same("others move on", net.move(33), 1);
        check.same("and stay before the goal", net.move(33), 1);
        Nets.tell(net, 1, true, 2);
        net.send(2, 1, 8);
        check.same("another goal has room", net.move(34), -1);
        check.same("words of its own", net.got(1, 0), 8);
    }

    private static void waitingAndGotWrong() {
        DriftNet net = toldChain(2);
        net.send(1, 0, 3);
        net.off(1);
        check.same("at a boat that is off", net.waiting(1), 1);
        net.on(1);
        net.move(0);
        net.off(0);
        check.same("a word of a boat that is off", net.got(0, 0), 3);
        for (int boat : new int[] {-1, 8, Integer.MAX_VALUE, Integer.MIN_VALUE}) {
            check.illegalArgument("waiting " + boat, () -> net.waiting(boat));
            check.illegalArgument("got " + boat, () -> net.got(boat, 0));
            check.illegalArgument("the boat goes before k", () -> net.got(boat, -1));
        }
        check.outOfBounds("k is 1", () -> net.got(0, 1));
        check.outOfBounds("k is -1", () -> net.got(0, -1));
        check.outOfBounds("k is the greatest", () -> net.got(0, Integer.MAX_VALUE));
        check.outOfBounds("none got", () -> net.got(1, 0));
    }
}
