/** Promises 5 to 7, and the term CAST. What these calls refuse stands in RefusedTest. */
public final class CastsTest {
    private static final Check check = new Check();

    public static void main(String[] args) {
        ownEntryHasCome();
        fullGrowsByTwo();
        fullHasAllThatItHas();
        notFullWhatCame();
        notFullWhatChanged();
        notFullWhatWasLost();
        notFullWhatWasTakenAsBroken();
        notFullWhatWasHeardInVain();
        eachBoatHasItsOwnLastCast();
        refusedCastIsNoCast();
        offBetween();
        numbersOfCasts();
        partsOfThree();
        onePartWithoutAny();
        sizesOfParts();
        entryAnswers();
        sixteenAreKept();
        keptOnesWrapAround();
        keptOnesStayAsTheyWere();
        check.end();
    }

    private static String told(DriftNet net, int boat, boolean full) {
        return Nets.rows(net, net.cast(boat, full));
    }

    /** "(.. for itself 0 and 0 at first, which counts as come)" */
    private static void ownEntryHasCome() {
        for (int boat = 0; boat < 8; boat++) {
            DriftNet net = new DriftNet();
            net.on(boat);
            check.same("the first", told(net, boat, false), boat + ":0:0");
            check.same("the second", told(net, boat, false), "");
        }
    }

    /** "first the boat's number for itself, also the shown one, grows by 2" */
    private static void fullGrowsByTwo() {
        DriftNet net = Nets.chain(2);
        for (int number = 2; number <= 20; number += 2) {
            check.same("the row has the number after", told(net, 0, true), "0:" + number + ":0");
            check.same("also the shown one", Nets.routes(net, 0, 0), "0 0 " + number + " 0 " + number + " 0 0");
            check.same("nothing since", told(net, 0, false), "");
            check.same("not full does not grow", net.route(0, 0, 2), number);
        }
        check.same("nor does another boat's", Nets.routes(net, 1, 1), "1 0 0 0 0 0 0");
    }

    /** "then all that it has are in the row": also what did not change, and what is broken. */
    private static void fullHasAllThatItHas() {
        DriftNet net = Nets.mesh(4);
        Nets.tell(net, 3, true, 1);
        Nets.tell(net, 0, true, 1);
        check.same("all", told(net, 1, true), "0:2:1 1:2:0 3:2:1");
        check.same("all again", told(net, 1, true), "0:2:1 1:4:0 3:2:1");
        Nets.ticks(net, 6);
        check.same("with the broken ones", told(net, 1, true), "0:3:-1 1:6:0 3:3:-1");
        check.same("nothing since a full one", told(net, 1, false), "");
    }

    /** "only those whose shown entry changed (or came) since its last cast" */
    private static void notFullWhatCame() {
        DriftNet net = Nets.mesh(4);
        net.cast(0, false);
        Nets.tell(net, 3, false, 0);
        check.same("one came", told(net, 0, false), "3:0:1");
        Nets.tell(net, 2, false, 0);
        Nets.tell(net, 1, false, 0);
        check.same("two came, by rising goals", told(net, 0, false), "1:0:1 2:0:1");
        check.same("none came", told(net, 0, false), "");
    }

    private static void notFullWhatChanged() {
        DriftNet net = Nets.mesh(4);
        int near = net.cast(0, true);
        net.hear(near, 0, 1, false);
        Nets.tell(net, 1, false, 2);
        check.same("came", told(net, 2, false), "0:2:2 1:0:1 2:0:0");
        net.hear(near, 0, 2, false);
        check.same("the metric changed", told(net, 2, false), "0:2:1");
        Nets.tell(net, 0, true, 2);
        check.same("the number changed", told(net, 2, false), "0:4:1");
        Nets.tell(net, 0, true, 2);
        Nets.tell(net, 0, true, 2);
        check.same("changed twice, told once", told(net, 2, false), "0:8:1");
        check.same("nothing changed", told(net, 2, false), "");
        Nets.tell(net, 0, true, 2);
        check.same("changed, told in a full one", told(net, 2, true), "0:10:1 1:0:1 2:2:0");
        check.same("nothing since", told(net, 2, false), "");
    }

    private static void notFullWhatWasLost() {
        DriftNet net = Nets.mesh(3);
        Nets.tell(net, 1, false, 0);
        net.cast(0, false);
        Nets.ticks(net, 5);
        check.same("not lost yet", told(net, 0, false), "");
        net.tick();
        check.same("lost", told(net, 0, false), "1:1:-1");
        Nets.ticks(net, 8);
        check.same("once", told(net, 0, false), "");
    }

    private static void notFullWhatWasTakenAsBroken() {
        Tales tales = new Tales();
        tales.hear("4/1");
        check.same("whole", told(tales.net, 7, false), "0:4:1 7:0:0");
        tales.hear("5/B");
        check.same("broken", told(tales.net, 7, false), "0:5:-1");
    }

    private static void notFullWhatWasHeardInVain() {
        Tales tales = new Tales();
        tales.hear("4/1");
        tales.net.cast(7, false);
        for (String name : new String[] {"4/1", "4/2", "4/3", "2/1", "3/B"}) {
            check.same("not taken", tales.hear(name), 0);
        }
        check.same("nothing changed", told(tales.net, 7, false), "");
    }

    private static void eachBoatHasItsOwnLastCast() {
        DriftNet net = Nets.mesh(3);
        Nets.tell(net, 0, true, 1);
        check.same("0 has cast, 1 has not", told(net, 1, false), "0:2:1 1:0:0");
        check.same("nor has 2", told(net, 2, false), "2:0:0");
        check.same("0 has", told(net, 0, false), "");
    }

    private static void refusedCastIsNoCast() {
        DriftNet net = new DriftNet();
        check.illegalState("off", () -> net.cast(0, false));
        check.illegalState("off, full", () -> net.cast(0, true));
        net.on(0);
        check.same("the own entry still counts as come", told(net, 0, false), "0:0:0");
    }

    private static void offBetween() {
        DriftNet net = Nets.mesh(2);
        Nets.tell(net, 0, true, 1);
        net.off(1);
        net.on(1);
        check.same("what came is told after off and on", told(net, 1, false), "0:2:1 1:0:0");
        net.off(1);
        net.on(1);
        check.same("and not again", told(net, 1, false), "");
    }

    /** "Casts have the numbers 0, 1, .." */
    private static void numbersOfCasts() {
        DriftNet net = Nets.chain(8);
        for (int i = 0; i < 100; i++) {
            check.same("one count for all boats", net.cast(i % 8, i % 3 == 0), i);
        }
    }

    /** Boat 0 has that many entries, and its cast has them all. */
    private static DriftNet withEntries(int count) {
        DriftNet net = Nets.mesh(8);
        for (int i = 1; i < count; i++) {
            Nets.tell(net, 8 - i, false, 0);
        }
        return net;
    }

    /** "it is in PARTS of three of them, the last one having what is left" */
    private static void partsOfThree() {
        int[] due = {1, 1, 1, 2, 2, 2, 3, 3};
        for (int count = 1; count <= 8; count++) {
            DriftNet net = withEntries(count);
            check.same("parts of " + count, net.parts(net.cast(0, true)), due[count - 1]);
            DriftNet other = withEntries(count);
            check.same("parts of " + count + " not full", other.parts(other.cast(0, false)), due[count - 1]);
        }
        DriftNet net = withEntries(8);
        check.same("by rising goals", told(net, 0, true), "0:2:0 1:0:1 2:0:1|3:0:1 4:0:1 5:0:1|6:0:1 7:0:1");
    }

    /** "(one part without any, if there are none)" */
    private static void onePartWithoutAny() {
        DriftNet net = Nets.chain(2);
        net.cast(0, false);
        int cast = net.cast(0, false);
        check.same("one part", net.parts(cast), 1);
        check.outOfBounds("without any", () -> net.entry(cast, 0, 0, 0));
        check.illegalArgument("no second", () -> net.entry(cast, 1, 0, 0));
        check.same("it can be heard", net.hear(cast, 0, 1, false), 0);
        check.illegalArgument("no second to hear", () -> net.hear(cast, 1, 1, false));
    }

    /** "the part has no entry i" */
    private static void sizesOfParts() {
        for (int count = 1; count <= 8; count++) {
            DriftNet net = withEntries(count);
            int cast = net.cast(0, true);
            for (int row = 0; row < 9; row++) {
                int part = row / 3;
                int i = row % 3;
                String due = row < count ? "0" : part * 3 < count ? "IndexOutOfBounds" : "IllegalArgument";
                String got = Check.answer(() -> net.entry(cast, part, i, 2) * 0);
                check.same("row " + row + " of " + count, got.replace("throws.", "").replace("Exception", ""), due);
            }
        }
    }

    /** Promise 7: "what = 0: the goal, 1: the number, 2: the metric, -1 for BROKEN" */
    private static void entryAnswers() {
        DriftNet net = Nets.mesh(6);
        for (int i = 1; i < 6; i++) {
            Nets.tell(net, i, i > 2, 0);
        }
        int cast = net.cast(0, true);
        int[][] due = {{0, 2, 0}, {1, 0, 1}, {2, 0, 1}, {3, 2, 1}, {4, 2, 1}, {5, 2, 1}};
        for (int row = 0; row < 6; row++) {
            for (int what = 0; what < 3; what++) {
                check.same("row " + row + ", what " + what, net.entry(cast, row / 3, row % 3, what), due[row][what]);
            }
        }
        Nets.ticks(net, 6);
        int broken = net.cast(0, false);
        check.same("the goal of a broken one", net.entry(broken, 0, 0, 0), 1);
        check.same("its number", net.entry(broken, 0, 0, 1), 1);
        check.same("BROKEN", net.entry(broken, 0, 0, 2), -1);
        check.same("the last", net.entry(broken, 1, 1, 1), 3);
    }

    /** "the 16 latest ones are kept" */
    private static void sixteenAreKept() {
        DriftNet net = Nets.chain(2);
        for (int i = 0; i < 16; i++) {
            net.cast(i % 2, true);
        }
        check.same("the first of sixteen", Nets.rows(net, 0), "0:2:0");
        net.cast(0, true);
        check.illegalArgument("parts of the first of seventeen", () -> net.parts(0));
        check.illegalArgument("its entry", () -> net.entry(0, 0, 0, 0));
        check.illegalArgument("to hear it", () -> net.hear(0, 0, 1, true));
        check.same("the second of seventeen", Nets.rows(net, 1), "1:2:0");
        check.same("the last of seventeen", Nets.rows(net, 16), "0:18:0");
        check.same("hear the second", net.hear(1, 0, 0, true), 1);
        check.same("its sender and number", Nets.routes(net, 0, 1), "1 1 2 1 2 0 0");
    }

    private static void keptOnesWrapAround() {
        DriftNet net = Nets.chain(1);
        for (int cast = 0; cast < 100; cast++) {
            check.same("cast", net.cast(0, true), cast);
            int oldest = Math.max(0, cast - 15);
            check.same("the oldest kept", net.entry(oldest, 0, 0, 1), 2 * oldest + 2);
            check.same("the newest", net.entry(cast, 0, 0, 1), 2 * cast + 2);
            int tooOld = cast - 16;
            check.illegalArgument("too old", () -> net.parts(tooOld));
            int next = cast + 1;
            check.illegalArgument("not made yet", () -> net.parts(next));
        }
    }

    private static void keptOnesStayAsTheyWere() {
        DriftNet net = Nets.mesh(5);
        for (int i = 1; i < 5; i++) {
            Nets.tell(net, i, false, 0);
        }
        int cast = net.cast(0, true);
        String due = "0:2:0 1:0:1 2:0:1|3:0:1 4:0:1";
        check.same("at once", Nets.rows(net, cast), due);
        Nets.ticks(net, 6);
        net.cast(0, true);
        net.off(0);
        check.same("after its sender lost them and is off", Nets.rows(net, cast), due);
        net.on(0);
        for (int i = 0; i < 14; i++) {
            net.cast(0, false);
        }
        check.same("as the oldest kept", Nets.rows(net, cast), due);
    }
}
