import java.util.function.Consumer;
import java.util.function.Supplier;

/**
 * "In all calls, illegal argument: there is no such boat (cast, part, packet under way). Of several
 * exceptions the one named first is thrown; a call that throws changes nothing.": for each call that
 * throws each of its exceptions, and each pair of them that can come together.
 */
public final class RefusedTest {
    private static final Check check = new Check();
    private static final String ARGUMENT = "IllegalArgumentException";
    private static final String STATE = "IllegalStateException";
    private static final String BOUNDS = "IndexOutOfBoundsException";

    // 16 and 32 have the low bits of boat 0, so that a mask or a shift would take them for it.
    private static final int[] NO_BOATS = {-1, 8, 16, 32, Integer.MIN_VALUE, Integer.MAX_VALUE};
    private static final int[] NO_PARTS = {-1, 2, Integer.MIN_VALUE, Integer.MAX_VALUE};
    private static final int LAST_CAST = 19;
    private static final int[] NO_CASTS = {-1, -16, LAST_CAST + 1, LAST_CAST - 16, 0, Integer.MIN_VALUE, Integer.MAX_VALUE};
    private static final int TWO_PARTS = 18;
    private static final int EMPTY = 19;

    public static void main(String[] args) {
        theNetIsBusy();
        boatAlone();
        boatTwice();
        link();
        cast();
        parts();
        castsOfAYoungNet();
        entry();
        entryPairs();
        hearArgument();
        hearState();
        hearPairs();
        route();
        sendArgument();
        sendState();
        sendPairs();
        move();
        got();
        check.end();
    }

    /** That exception is thrown, and whatever is asked later is answered as by a twin that was not asked. */
    private static void refused(String due, String what, Supplier<DriftNet> past, Consumer<DriftNet> call) {
        for (int i = 0; i < Story.COUNT; i++) {
            DriftNet asked = past.get();
            check.same(what, Check.thrownBy(() -> call.accept(asked)), due);
            check.same(what + " changes nothing", Story.of(asked, i), Story.of(past.get(), i));
        }
    }

    /**
     * Boats 0 to 5 know the ways to all before them, 6 is on and knows of none, 7 is off, and 0 to 6 are a
     * chain. Cast 18 is of boat 5 and has two parts, 19 of it too and has none; the casts before 4 are too
     * old. Packet 0 has arrived, 1 is at boat 2 and 2 at boat 5.
     */
    private static DriftNet busy() {
        DriftNet net = Nets.chain(7);
        for (int i = 0; i < 12; i++) {
            net.cast(6, true);
        }
        for (int i = 0; i < 5; i++) {
            Nets.tell(net, i, i == 0, i + 1);
        }
        net.tick();
        Nets.tell(net, 1, true, 0);
        net.cast(5, false);
        net.cast(5, false);
        net.send(1, 0, 11);
        net.send(2, 0, 12);
        net.send(5, 0, 13);
        net.move(0);
        return net;
    }

    /** As busy, but boats 5 and 6 are off and have casts, packets and all else as they were. */
    private static DriftNet busyOff() {
        DriftNet net = busy();
        net.off(5);
        net.off(6);
        return net;
    }

    private static void theNetIsBusy() {
        DriftNet net = busy();
        check.same("two parts", Nets.rows(net, TWO_PARTS), "0:2:5 1:0:4 2:0:3|3:0:2 4:0:1 5:0:0");
        check.same("none", Nets.rows(net, EMPTY), "");
        check.same("the last", net.cast(0, false), LAST_CAST + 1);
        check.same("the way from 5", Nets.routes(net, 5, 0), "4 5 2 5 2 0 0");
        check.same("packet 1", net.move(1), 1);
        check.same("packet 2", net.move(2), 4);
        check.same("boats 0 and 1", net.two(0, 1), true);
    }

    /** Promises 2, 3, 14, 16: "Illegal argument." */
    private static void boatAlone() {
        for (int boat : NO_BOATS) {
            refused(ARGUMENT, "on " + boat, RefusedTest::busy, net -> net.on(boat));
            refused(ARGUMENT, "off " + boat, RefusedTest::busy, net -> net.off(boat));
            refused(ARGUMENT, "waiting " + boat, RefusedTest::busy, net -> net.waiting(boat));
            refused(ARGUMENT, "circle " + boat, RefusedTest::busy, net -> net.circle(boat));
        }
    }

    /** Promises 11 and 17: "Illegal argument." */
    private static void boatTwice() {
        for (int boat : NO_BOATS) {
            int[][] pairs = {{boat, 0}, {0, boat}, {boat, 7}, {7, boat}, {boat, boat}, {boat, -2}, {-2, boat}};
            for (int[] pair : pairs) {
                String told = " " + pair[0] + ", " + pair[1];
                refused(ARGUMENT, "two" + told, RefusedTest::busy, net -> net.two(pair[0], pair[1]));
                refused(ARGUMENT, "best" + told, RefusedTest::busy, net -> net.best(pair[0], pair[1]));
            }
        }
    }

    /** Promise 4: "Illegal argument: also if they are the same." */
    private static void link() {
        for (int boat : NO_BOATS) {
            int[][] pairs = {{boat, 0}, {0, boat}, {boat, boat}, {boat, 9}, {9, boat}};
            for (int[] pair : pairs) {
                String told = "link " + pair[0] + ", " + pair[1];
                refused(ARGUMENT, told, RefusedTest::busy, net -> net.link(pair[0], pair[1], true));
                refused(ARGUMENT, told, RefusedTest::busy, net -> net.link(pair[0], pair[1], false));
            }
        }
        for (int boat = 0; boat < 8; boat++) {
            int b = boat;
            refused(ARGUMENT, "link the same", RefusedTest::busy, net -> net.link(b, b, true));
            refused(ARGUMENT, "unlink the same", RefusedTest::busy, net -> net.link(b, b, false));
        }
    }

    /** Promise 5: "Illegal argument; illegal state: it is off." */
    private static void cast() {
        for (int boat : NO_BOATS) {
            refused(ARGUMENT, "cast " + boat, RefusedTest::busy, net -> net.cast(boat, false));
            refused(ARGUMENT, "cast full " + boat, RefusedTest::busy, net -> net.cast(boat, true));
        }
        for (int boat = 5; boat < 8; boat++) {
            int b = boat;
            refused(STATE, "cast of one that is off", RefusedTest::busyOff, net -> net.cast(b, false));
            refused(STATE, "full cast of one that is off", RefusedTest::busyOff, net -> net.cast(b, true));
        }
        refused(STATE, "the first cast of one that is off", DriftNet::new, net -> net.cast(0, true));
    }

    /** Promise 6: "Illegal argument." */
    private static void parts() {
        for (int cast : NO_CASTS) {
            refused(ARGUMENT, "parts " + cast, RefusedTest::busy, net -> net.parts(cast));
        }
        refused(ARGUMENT, "parts of a cast not made yet", DriftNet::new, net -> net.parts(0));
    }

    /** A net that has made so few casts that none is too old. */
    private static DriftNet young() {
        DriftNet net = Nets.chain(3);
        net.cast(0, true);
        net.cast(1, true);
        return net;
    }

    /** "there is no such .. cast": none before the first either, where a row for it is kept free. */
    private static void castsOfAYoungNet() {
        for (int cast : new int[] {-1, -2, -14, -15, -16, 2, 3, 15, 16, Integer.MIN_VALUE, Integer.MAX_VALUE}) {
            refused(ARGUMENT, "parts " + cast, RefusedTest::young, net -> net.parts(cast));
            refused(ARGUMENT, "entry of " + cast, RefusedTest::young, net -> net.entry(cast, 0, 0, 0));
            refused(ARGUMENT, "hear " + cast, RefusedTest::young, net -> net.hear(cast, 0, 2, true));
        }
    }

    /** Promise 7: "Illegal argument: also if what is none of these; index out of bounds: the part has no entry i." */
    private static void entry() {
        for (int cast : NO_CASTS) {
            refused(ARGUMENT, "cast " + cast, RefusedTest::busy, net -> net.entry(cast, 0, 0, 0));
        }
        for (int part : NO_PARTS) {
            refused(ARGUMENT, "part " + part, RefusedTest::busy, net -> net.entry(TWO_PARTS, part, 0, 0));
        }
        refused(ARGUMENT, "part 1 of none", RefusedTest::busy, net -> net.entry(EMPTY, 1, 0, 0));
        for (int what : new int[] {-1, 3, Integer.MIN_VALUE, Integer.MAX_VALUE}) {
            refused(ARGUMENT, "what " + what, RefusedTest::busy, net -> net.entry(TWO_PARTS, 0, 0, what));
        }
        for (int what = 0; what < 3; what++) {
            int w = what;
            for (int i : new int[] {-1, 3, 4, Integer.MIN_VALUE, Integer.MAX_VALUE}) {
                refused(BOUNDS, "entry " + i, RefusedTest::busy, net -> net.entry(TWO_PARTS, 0, i, w));
                refused(BOUNDS, "entry " + i + " of the last part", RefusedTest::busy, net -> net.entry(TWO_PARTS, 1, i, w));
            }
            refused(BOUNDS, "entry 0 of none", RefusedTest::busy, net -> net.entry(EMPTY, 0, 0, w));
            refused(BOUNDS, "entry -1 of none", RefusedTest::busy, net -> net.entry(EMPTY, 0, -1, w));
            refused(BOUNDS, "entry 1 of one", RefusedTest::busy, net -> net.entry(11, 0, 1, w));
        }
    }

    private static void entryPairs() {
        int none = LAST_CAST + 1;
        int old = LAST_CAST - 16;
        refused(ARGUMENT, "cast and part", RefusedTest::busy, net -> net.entry(none, 2, 0, 0));
        refused(ARGUMENT, "cast and what", RefusedTest::busy, net -> net.entry(none, 0, 0, 3));
        refused(ARGUMENT, "cast and i", RefusedTest::busy, net -> net.entry(none, 0, 3, 0));
        refused(ARGUMENT, "an old cast and i", RefusedTest::busy, net -> net.entry(old, 0, 3, 0));
        refused(ARGUMENT, "part and what", RefusedTest::busy, net -> net.entry(TWO_PARTS, 2, 0, 3));
        refused(ARGUMENT, "part and i", RefusedTest::busy, net -> net.entry(TWO_PARTS, 2, 3, 0));
        refused(ARGUMENT, "part -1 and i", RefusedTest::busy, net -> net.entry(TWO_PARTS, -1, -1, 0));
        refused(ARGUMENT, "part 1 of none and i", RefusedTest::busy, net -> net.entry(EMPTY, 1, 0, 0));
        refused(ARGUMENT, "what and i", RefusedTest::busy, net -> net.entry(TWO_PARTS, 0, 3, 3));
        refused(ARGUMENT, "what -1 and i", RefusedTest::busy, net -> net.entry(TWO_PARTS, 0, -1, -1));
        refused(ARGUMENT, "what and i of none", RefusedTest::busy, net -> net.entry(EMPTY, 0, 0, 3));
        refused(ARGUMENT, "all", RefusedTest::busy, net -> net.entry(none, 2, 3, 3));
    }

    /** Promise 8: "Illegal argument" */
    private static void hearArgument() {
        for (int cast : NO_CASTS) {
            refused(ARGUMENT, "hear cast " + cast, RefusedTest::busy, net -> net.hear(cast, 0, 1, true));
            refused(ARGUMENT, "hear cast " + cast + ", not late", RefusedTest::busy, net -> net.hear(cast, 0, 5, false));
        }
        for (int part : NO_PARTS) {
            refused(ARGUMENT, "hear part " + part, RefusedTest::busy, net -> net.hear(TWO_PARTS, part, 6, true));
        }
        refused(ARGUMENT, "hear part 1 of none", RefusedTest::busy, net -> net.hear(EMPTY, 1, 6, true));
        for (int boat : NO_BOATS) {
            refused(ARGUMENT, "hears boat " + boat, RefusedTest::busy, net -> net.hear(TWO_PARTS, 0, boat, true));
            refused(ARGUMENT, "hears boat " + boat, RefusedTest::busy, net -> net.hear(TWO_PARTS, 0, boat, false));
        }
    }

    /** Promise 8: "illegal state: the boat is off, or sent it, or it is not heard late and they are not linked now" */
    private static void hearState() {
        refused(STATE, "it is off", RefusedTest::busyOff, net -> net.hear(TWO_PARTS, 1, 6, true));
        refused(STATE, "it is off, but linked", RefusedTest::busyOff, net -> net.hear(TWO_PARTS, 0, 6, false));
        refused(STATE, "it is off, a part without any", RefusedTest::busyOff, net -> net.hear(EMPTY, 0, 6, true));
        refused(STATE, "it sent it", RefusedTest::busy, net -> net.hear(TWO_PARTS, 0, 5, true));
        refused(STATE, "it sent it, a part without any", RefusedTest::busy, net -> net.hear(EMPTY, 0, 5, true));
        refused(STATE, "they are not linked", RefusedTest::busy, net -> net.hear(TWO_PARTS, 0, 0, false));
        refused(STATE, "not linked, a part without any", RefusedTest::busy, net -> net.hear(EMPTY, 0, 0, false));
        refused(STATE, "they are not linked any more", RefusedTest::unlinked, net -> net.hear(TWO_PARTS, 1, 6, false));
    }

    private static DriftNet unlinked() {
        DriftNet net = busy();
        net.link(6, 5, false);
        return net;
    }

    private static void hearPairs() {
        int none = LAST_CAST + 1;
        refused(ARGUMENT, "cast and part", RefusedTest::busy, net -> net.hear(none, 2, 6, true));
        refused(ARGUMENT, "cast and boat", RefusedTest::busy, net -> net.hear(none, 0, 8, true));
        refused(ARGUMENT, "cast and off", RefusedTest::busyOff, net -> net.hear(none, 0, 6, true));
        refused(ARGUMENT, "an old cast and off", RefusedTest::busyOff, net -> net.hear(0, 0, 6, false));
        refused(ARGUMENT, "an old cast and sent it", RefusedTest::busy, net -> net.hear(0, 0, 6, true));
        refused(ARGUMENT, "an old cast and not linked", RefusedTest::busy, net -> net.hear(0, 0, 1, false));
        refused(ARGUMENT, "part and boat", RefusedTest::busy, net -> net.hear(TWO_PARTS, 2, 8, true));
        refused(ARGUMENT, "part and off", RefusedTest::busyOff, net -> net.hear(TWO_PARTS, 2, 6, true));
        refused(ARGUMENT, "part and sent it", RefusedTest::busy, net -> net.hear(TWO_PARTS, 2, 5, true));
        refused(ARGUMENT, "part and not linked", RefusedTest::busy, net -> net.hear(TWO_PARTS, 2, 0, false));
        refused(ARGUMENT, "part of none and not linked", RefusedTest::busy, net -> net.hear(EMPTY, 1, 0, false));
        refused(STATE, "off and sent it", RefusedTest::busyOff, net -> net.hear(TWO_PARTS, 0, 5, true));
        refused(STATE, "off and not linked", RefusedTest::busyOff, net -> net.hear(TWO_PARTS, 0, 7, false));
        refused(STATE, "sent it and not linked", RefusedTest::busy, net -> net.hear(TWO_PARTS, 0, 5, false));
        refused(STATE, "all states", RefusedTest::busyOff, net -> net.hear(TWO_PARTS, 0, 5, false));
        refused(ARGUMENT, "part and all states", RefusedTest::busyOff, net -> net.hear(TWO_PARTS, -1, 5, false));
    }

    /** Promise 10: "Illegal argument: also if what is none of these." */
    private static void route() {
        int[] noWhats = {-1, 7, Integer.MIN_VALUE, Integer.MAX_VALUE};
        for (int what : noWhats) {
            refused(ARGUMENT, "what " + what, RefusedTest::busy, net -> net.route(5, 0, what));
            refused(ARGUMENT, "what " + what + " of itself", RefusedTest::busy, net -> net.route(5, 5, what));
            refused(ARGUMENT, "what " + what + " where there is none", RefusedTest::busy, net -> net.route(6, 0, what));
        }
        for (int boat : NO_BOATS) {
            for (int what = 0; what < 7; what++) {
                int w = what;
                refused(ARGUMENT, "boat " + boat, RefusedTest::busy, net -> net.route(boat, 0, w));
                refused(ARGUMENT, "goal " + boat, RefusedTest::busy, net -> net.route(0, boat, w));
            }
            refused(ARGUMENT, "boat and goal", RefusedTest::busy, net -> net.route(boat, 8, 0));
            refused(ARGUMENT, "boat and the same goal", RefusedTest::busy, net -> net.route(boat, boat, 0));
            refused(ARGUMENT, "boat and what", RefusedTest::busy, net -> net.route(boat, 0, 7));
            refused(ARGUMENT, "goal and what", RefusedTest::busy, net -> net.route(0, boat, -1));
        }
    }

    /** Boats 1 to 4 have four packets each; 5 has none and knows the way, 6 is on and knows none. */
    private static DriftNet sixteen() {
        DriftNet net = Nets.chain(7);
        for (int i = 0; i < 5; i++) {
            Nets.tell(net, i, i == 0, i + 1);
        }
        for (int i = 0; i < 16; i++) {
            net.send(1 + i / 4, 0, i);
        }
        return net;
    }

    /** Four of those sixteen have arrived, so that four are at a boat, but not sixteen under way. */
    private static DriftNet twelve() {
        DriftNet net = sixteen();
        for (int i = 0; i < 4; i++) {
            net.move(i);
        }
        return net;
    }

    private static DriftNet off(DriftNet net, int boat) {
        net.off(boat);
        return net;
    }

    /** Promise 12: "Illegal argument: also if they are the same" */
    private static void sendArgument() {
        for (int boat : NO_BOATS) {
            int[][] pairs = {{boat, 0}, {5, boat}, {boat, boat}, {boat, 9}, {9, boat}};
            for (int[] pair : pairs) {
                refused(ARGUMENT, "send " + pair[0] + ", " + pair[1], RefusedTest::busy, net -> net.send(pair[0], pair[1], 1));
            }
        }
        for (int boat = 0; boat < 8; boat++) {
            int b = boat;
            refused(ARGUMENT, "send to itself", RefusedTest::busy, net -> net.send(b, b, 1));
        }
    }

    /** Promise 12: "illegal state: the first one is off, or has no entry for the other one, or 4 packets are there, or 16 under way" */
    private static void sendState() {
        refused(STATE, "off", () -> off(twelve(), 5), net -> net.send(5, 0, 1));
        refused(STATE, "no entry", RefusedTest::twelve, net -> net.send(6, 0, 1));
        refused(STATE, "no entry for that one", RefusedTest::twelve, net -> net.send(5, 6, 1));
        refused(STATE, "4 are there", RefusedTest::twelve, net -> net.send(4, 0, 1));
        refused(STATE, "16 are under way", RefusedTest::sixteen, net -> net.send(5, 0, 1));
    }

    private static void sendPairs() {
        refused(ARGUMENT, "goal and off", () -> off(twelve(), 5), net -> net.send(5, 8, 1));
        refused(ARGUMENT, "goal and 4 there", RefusedTest::twelve, net -> net.send(4, -1, 1));
        refused(ARGUMENT, "goal and 16 under way", RefusedTest::sixteen, net -> net.send(5, 8, 1));
        refused(ARGUMENT, "from and 16 under way", RefusedTest::sixteen, net -> net.send(8, 0, 1));
        refused(ARGUMENT, "the same and off", () -> off(twelve(), 5), net -> net.send(5, 5, 1));
        refused(ARGUMENT, "the same and 4 there", RefusedTest::twelve, net -> net.send(4, 4, 1));
        refused(ARGUMENT, "the same and 16 under way", RefusedTest::sixteen, net -> net.send(5, 5, 1));
        refused(STATE, "off and no entry", () -> off(twelve(), 6), net -> net.send(6, 0, 1));
        refused(STATE, "off and 4 there", () -> off(twelve(), 4), net -> net.send(4, 0, 1));
        refused(STATE, "off and 16 under way", () -> off(sixteen(), 5), net -> net.send(5, 0, 1));
        refused(STATE, "no entry and 4 there", RefusedTest::twelve, net -> net.send(4, 6, 1));
        refused(STATE, "no entry and 16 under way", RefusedTest::sixteen, net -> net.send(6, 0, 1));
        refused(STATE, "4 there and 16 under way", RefusedTest::sixteen, net -> net.send(4, 0, 1));
        refused(STATE, "all states", () -> off(sixteen(), 4), net -> net.send(4, 6, 1));
        refused(ARGUMENT, "goal and all states", () -> off(sixteen(), 4), net -> net.send(4, 8, 1));
    }

    /** Promise 13: "Illegal argument; illegal state: the boat at which it is is off." */
    private static void move() {
        for (int packet : new int[] {-1, 0, 3, 16, 17, Integer.MIN_VALUE, Integer.MAX_VALUE}) {
            refused(ARGUMENT, "move " + packet, RefusedTest::busy, net -> net.move(packet));
            refused(ARGUMENT, "move " + packet + " while one's boat is off", RefusedTest::busyOff, net -> net.move(packet));
        }
        refused(ARGUMENT, "no packet yet", DriftNet::new, net -> net.move(0));
        refused(STATE, "its boat is off", RefusedTest::busyOff, net -> net.move(2));
        refused(STATE, "its boat and the next are off", () -> off(busyOff(), 4), net -> net.move(2));
        refused(STATE, "its boat is off, it would have arrived", () -> off(sixteen(), 1), net -> net.move(0));
    }

    /** Promise 15: "Illegal argument; index out of bounds: it has got no more." */
    private static void got() {
        for (int boat : NO_BOATS) {
            refused(ARGUMENT, "got by boat " + boat, RefusedTest::busy, net -> net.got(boat, 0));
            refused(ARGUMENT, "boat and k", RefusedTest::busy, net -> net.got(boat, 1));
            refused(ARGUMENT, "boat and k -1", RefusedTest::busy, net -> net.got(boat, -1));
        }
        for (int k : new int[] {-1, 1, 31, 32, Integer.MIN_VALUE, Integer.MAX_VALUE}) {
            refused(BOUNDS, "got word " + k, RefusedTest::busy, net -> net.got(0, k));
        }
        refused(BOUNDS, "it has got none", RefusedTest::busy, net -> net.got(1, 0));
        refused(BOUNDS, "it is off and has got none", RefusedTest::busy, net -> net.got(7, 0));
    }
}
