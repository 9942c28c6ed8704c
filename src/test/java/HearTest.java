/** Promise 8, and the term TO HEAR. */
public final class HearTest {
    private static final Check check = new Check();
    private static final String[] TALES = {
        "2/1", "2/2", "2/3", "3/B", "4/1", "4/2", "4/3", "5/B", "6/1", "6/2", "6/3", "7/B",
    };

    /** For each entry that a boat may have (none, 2/1 .. 7/B), which of the tales are taken, in their order. */
    private static final String[][] TAKEN = {
        {"none", "1110 1110 1110"},
        {"2/1", "0001 1111 1111"},
        {"2/2", "1001 1111 1111"},
        {"2/3", "1101 1111 1111"},
        {"3/B", "0000 1111 1111"},
        {"4/1", "0000 0001 1111"},
        {"4/2", "0000 1001 1111"},
        {"4/3", "0000 1101 1111"},
        {"5/B", "0000 0000 1111"},
        {"6/1", "0000 0000 0001"},
        {"6/2", "0000 0000 1001"},
        {"6/3", "0000 0000 1101"},
        {"7/B", "0000 0000 0000"},
    };

    public static void main(String[] args) {
        talesAreAsNamed();
        eachCaseOfTaking();
        notOfItself();
        metricAndOneMore();
        brokenIsToldOn();
        brokenIsNoEntryForWhoHasNone();
        otherSenderAsNear();
        otherSenderOfTheSameNumber();
        senderIsHeardNow();
        senderIsHeardAlsoOfNothing();
        oneAfterTheOther();
        onePartAlone();
        howMany();
        late();
        senderMayBeOff();
        linkCountsNow();
        repeated();
        check.end();
    }

    private static void talesAreAsNamed() {
        Tales tales = new Tales();
        for (String name : TALES) {
            String number = name.substring(0, 1);
            boolean broken = name.endsWith("B");
            String metric = broken ? "-1" : String.valueOf(name.charAt(2) - '1');
            check.same("tale " + name, Nets.rows(tales.net, tales.cast(name)), "0:" + number + ":" + metric);
        }
        check.same("the clock", tales.net.clock(), Tales.CLOCK);
    }

    /** Boat 7 comes to have that entry for goal 0. */
    private static Tales having(String entry) {
        Tales tales = new Tales();
        if (entry.endsWith("B")) {
            tales.hear((char) (entry.charAt(0) - 1) + "/1");
        }
        if (!entry.equals("none")) {
            tales.hear(entry);
        }
        return tales;
    }

    /** What route answers of next, metric and number for an entry that came from one of the tales. */
    private static String due(String entry) {
        if (entry.equals("none")) {
            return "-1 -1 -1";
        }
        String number = entry.substring(0, 1);
        if (entry.endsWith("B")) {
            return "-1 -1 " + number;
        }
        int metric = entry.charAt(2) - '0';
        return (metric - 1) + " " + metric + " " + number;
    }

    private static String entryOf(Tales tales) {
        return tales.net.route(7, 0, 0) + " " + tales.net.route(7, 0, 1) + " " + tales.net.route(7, 0, 2);
    }

    /**
     * "the boat has no entry for the goal, and m is not BROKEN; or its number is greater than that of the
     * boat's entry; or it is the same, and m (not BROKEN) is less than the entry's metric. Then the boat's
     * entry has that number, the metric m, and the sender as next."
     */
    private static void eachCaseOfTaking() {
        for (String[] row : TAKEN) {
            String taken = row[1].replace(" ", "");
            for (int i = 0; i < TALES.length; i++) {
                Tales tales = having(row[0]);
                check.same("has " + row[0], entryOf(tales), due(row[0]));
                boolean takes = taken.charAt(i) == '1';
                check.same("has " + row[0] + ", hears " + TALES[i], tales.hear(TALES[i]), takes ? 1 : 0);
                check.same("has then", entryOf(tales), due(takes ? TALES[i] : row[0]));
            }
        }
    }

    /** "if its goal is not the boat itself": not with a greater number either. */
    private static void notOfItself() {
        Tales tales = new Tales();
        for (String name : TALES) {
            if (!name.endsWith("/1")) {
                check.same("of itself " + name, tales.hear(name, 0), 0);
            }
        }
        check.same("its own entry", Nets.routes(tales.net, 0, 0), "0 0 6 0 6 0 0");
        check.same("its next number", Nets.rows(tales.net, tales.net.cast(0, true)), "0:8:0");
    }

    /** "let m be its metric and 1 more": as far as a way can be. */
    private static void metricAndOneMore() {
        DriftNet net = Nets.chain(8);
        for (int i = 0; i < 7; i++) {
            check.same("all before", Nets.tell(net, i, false, i + 1), i + 1);
            check.same("the way to 0", Nets.routes(net, i + 1, 0), i + " " + (i + 1) + " 0 " + (i + 1) + " 0 0 0");
        }
        check.same("the last tells", Nets.rows(net, net.cast(7, false)), "0:0:7 1:0:6 2:0:5|3:0:4 4:0:3 5:0:2|6:0:1 7:0:0");
    }

    /** "(BROKEN if it is broken)" */
    private static void brokenIsToldOn() {
        DriftNet net = Nets.chain(4);
        for (int i = 0; i < 3; i++) {
            Nets.tell(net, i, i == 0, i + 1);
        }
        net.off(2);
        net.off(3);
        Nets.ticks(net, 6);
        net.on(2);
        net.on(3);
        check.same("1 tells it", Nets.rows(net, net.cast(1, false)), "0:3:-1");
        check.same("2 takes it", net.hear(3, 0, 2, false), 1);
        check.same("2 has it", Nets.routes(net, 2, 0), "-1 -1 3 -1 3 0 0");
        check.same("2 tells it", Nets.rows(net, net.cast(2, false)), "0:3:-1");
        check.same("3 takes it", net.hear(4, 0, 3, false), 1);
        check.same("3 has it", Nets.routes(net, 3, 0), "-1 -1 3 -1 3 0 0");
        check.same("over 2, which it knows still", Nets.routes(net, 3, 2), "2 1 0 1 0 0 0");
    }

    private static void brokenIsNoEntryForWhoHasNone() {
        Tales tales = new Tales();
        check.same("broken", tales.hear("7/B"), 0);
        check.same("none", tales.known(), "-1 -1 -1 -1 -1 0 0");
        check.illegalState("so none may be sent", () -> tales.net.send(7, 0, 1));
        check.same("nor is it told", Nets.rows(tales.net, tales.net.cast(7, true)), "7:2:0");
        check.same("whole of a lesser number then", tales.hear("2/3"), 1);
    }

    private static void otherSenderAsNear() {
        DriftNet net = Nets.mesh(4);
        int cast = net.cast(0, true);
        net.hear(cast, 0, 1, false);
        net.hear(cast, 0, 2, false);
        check.same("over 2", Nets.tell(net, 2, false, 3), 2);
        check.same("over 1, as near: itself alone", Nets.tell(net, 1, false, 3), 1);
        check.same("the first stays", Nets.routes(net, 3, 0), "2 2 2 2 2 0 0");
    }

    private static void otherSenderOfTheSameNumber() {
        DriftNet net = Nets.mesh(4);
        int cast = net.cast(0, true);
        net.hear(cast, 0, 1, false);
        Nets.tell(net, 1, false, 2);
        check.same("over 2: three", Nets.tell(net, 2, false, 3), 3);
        check.same("at first", Nets.routes(net, 3, 0), "2 3 2 3 2 0 0");
        check.same("nearer over 1: 0 and 1", Nets.tell(net, 1, true, 3), 2);
        check.same("then", Nets.routes(net, 3, 0), "1 2 2 2 2 0 0");
        check.same("further over 2 again: 2 alone", Nets.tell(net, 2, true, 3), 1);
        check.same("still", Nets.routes(net, 3, 0), "1 2 2 2 2 0 0");
    }

    /** "the boat has heard the sender now": the later time counts, not the first. */
    private static void senderIsHeardNow() {
        Tales tales = new Tales();
        tales.hear("2/2");
        Nets.ticks(tales.net, 5);
        check.same("the same again", tales.hear("2/2"), 0);
        Nets.ticks(tales.net, 5);
        check.same("heard still", tales.net.route(7, 0, 0), 1);
        tales.net.tick();
        check.same("heard no more", tales.net.route(7, 0, 0), -1);
    }

    private static void senderIsHeardAlsoOfNothing() {
        DriftNet net = Nets.chain(2);
        net.cast(0, false);
        net.cast(1, false);
        check.same("a part without any", net.hear(net.cast(0, false), 0, 1, false), 0);
        check.same("one has heard", net.two(0, 1), false);
        check.same("a part without any", net.hear(net.cast(1, false), 0, 0, false), 0);
        check.same("both have heard", net.two(0, 1), true);
        check.same("but know no way", net.route(0, 1, 2) + net.route(1, 0, 2), -2);
    }

    /** "for each of the part's entries, one after the other": some of a part taken, others not. */
    private static void oneAfterTheOther() {
        DriftNet net = Nets.mesh(4);
        Nets.tell(net, 0, true, 1);
        Nets.tell(net, 2, true, 1);
        int cast = net.cast(1, true);
        check.same("what it tells", Nets.rows(net, cast), "0:2:1 1:2:0 2:2:1");
        check.same("3 takes all", net.hear(cast, 0, 3, false), 3);
        check.same("2 takes the first two", net.hear(cast, 0, 2, false), 2);
        check.same("0 takes the last two", net.hear(cast, 0, 0, false), 2);
        check.same("0 of 1", Nets.routes(net, 0, 1), "1 1 2 1 2 0 0");
        check.same("0 of 2", Nets.routes(net, 0, 2), "1 2 2 2 2 0 0");
        check.same("2 of 0", Nets.routes(net, 2, 0), "1 2 2 2 2 0 0");
    }

    private static void onePartAlone() {
        DriftNet net = Nets.mesh(6);
        for (int i = 1; i < 5; i++) {
            Nets.tell(net, i, false, 0);
        }
        int cast = net.cast(0, false);
        check.same("the second part", net.hear(cast, 1, 5, false), 2);
        check.same("nothing of the first part", net.route(5, 2, 2), -1);
        check.same("of the second", net.route(5, 3, 1), 2);
        check.same("the first part", net.hear(cast, 0, 5, false), 3);
        check.same("of the first", net.route(5, 2, 1), 2);
    }

    /** Promise 8: "how many entries it took": none to three. */
    private static void howMany() {
        DriftNet net = Nets.mesh(5);
        Nets.tell(net, 1, false, 0);
        Nets.tell(net, 2, false, 0);
        int cast = net.cast(0, false);
        check.same("three", net.hear(cast, 0, 3, false), 3);
        check.same("none", net.hear(cast, 0, 3, false), 0);
        check.same("two", net.hear(cast, 0, 1, false), 2);
        Nets.tell(net, 1, true, 4);
        Nets.tell(net, 2, true, 4);
        check.same("one: of 1 and 2 it knows more", net.hear(cast, 0, 4, false), 1);
    }

    /** "it is not heard late and they are not linked now" */
    private static void late() {
        DriftNet net = Nets.chain(2);
        int cast = net.cast(0, true);
        net.link(0, 1, false);
        check.illegalState("not late, not linked", () -> net.hear(cast, 0, 1, false));
        check.same("late, not linked", net.hear(cast, 0, 1, true), 1);
        net.on(5);
        check.same("late, never linked", net.hear(cast, 0, 5, true), 1);
        check.same("the sender is next", Nets.routes(net, 5, 0), "0 1 2 1 2 0 0");
        net.on(6);
        net.link(0, 6, true);
        check.same("late, linked", net.hear(cast, 0, 6, true), 1);
    }

    private static void senderMayBeOff() {
        DriftNet net = Nets.chain(2);
        int cast = net.cast(0, true);
        net.off(0);
        check.same("the sender is off", net.hear(cast, 0, 1, false), 1);
        check.same("it is next", Nets.routes(net, 1, 0), "0 1 2 1 2 0 0");
    }

    /** "linked now": not when it was cast. */
    private static void linkCountsNow() {
        DriftNet net = Nets.chain(1);
        net.on(1);
        int cast = net.cast(0, true);
        check.illegalState("not linked yet", () -> net.hear(cast, 0, 1, false));
        net.link(1, 0, true);
        check.same("linked since", net.hear(cast, 0, 1, false), 1);
    }

    private static void repeated() {
        Tales tales = new Tales();
        for (String name : TALES) {
            tales.hear(name);
            String known = tales.known();
            check.same("again " + name, tales.hear(name), 0);
            check.same("as it was", tales.known(), known);
        }
    }
}
