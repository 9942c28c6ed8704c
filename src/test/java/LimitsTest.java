import java.util.Random;

/** "An object is used for at most 512 calls after it has been made": all of them hold, and none after them fails by itself. */
public final class LimitsTest {
    private static final Check check = new Check();
    private static final int CALLS = 512;

    public static void main(String[] args) {
        onlyTicks();
        onlyFullCasts();
        onlyOnAndOff();
        onlyLinks();
        onlyHears();
        onlyRefusedCalls();
        asManyPacketsAsCanArrive();
        asGreatAMeanAsCanSettle();
        asManyLossesAsCanBe();
        afterTheLastCall();
        check.end();
    }

    private static void onlyTicks() {
        DriftNet net = new DriftNet();
        for (int i = 1; i < CALLS; i++) {
            check.same("tick", net.tick(), i);
        }
        check.same("the 512th call", net.clock(), CALLS - 1);
    }

    private static void onlyFullCasts() {
        DriftNet net = new DriftNet();
        net.on(6);
        for (int i = 0; i < CALLS - 3; i++) {
            check.same("cast", net.cast(6, true), i);
        }
        check.same("the number of the oldest kept", net.entry(CALLS - 19, 0, 0, 1), 2 * (CALLS - 18));
        check.same("the 512th call", net.route(6, 6, 2), 2 * (CALLS - 3));
    }

    private static void onlyOnAndOff() {
        DriftNet net = new DriftNet();
        for (int i = 0; i < CALLS; i++) {
            check.same("on or off", i % 2 == 0 ? net.on(7) : net.off(7), true);
        }
    }

    private static void onlyLinks() {
        DriftNet net = new DriftNet();
        for (int i = 0; i < CALLS; i++) {
            check.same("link", net.link(0, 7, i % 2 == 0), true);
        }
    }

    private static void onlyHears() {
        DriftNet net = Nets.chain(2);
        int cast = net.cast(0, true);
        for (int i = 0; i < CALLS - 4; i++) {
            check.same("hear", net.hear(cast, 0, 1, false), i == 0 ? 1 : 0);
        }
    }

    /** A call that throws is a call. */
    private static void onlyRefusedCalls() {
        DriftNet net = new DriftNet();
        for (int i = 1; i < CALLS; i++) {
            check.illegalState("cast", () -> net.cast(0, true));
        }
        check.same("the 512th call", net.route(0, 0, 2), 0);
    }

    private static void asManyPacketsAsCanArrive() {
        DriftNet net = new DriftNet();
        net.on(0);
        for (int goal = 1; goal < 8; goal++) {
            net.on(goal);
            net.link(0, goal, true);
            net.hear(net.cast(goal, true), 0, 0, false);
        }
        for (int i = 0; i < 224; i++) {
            check.same("send", net.send(0, 1 + i % 7, i), i);
            check.same("arrives", net.move(i), -1);
        }
        for (int goal = 1; goal < 8; goal++) {
            check.same("the 32nd word", net.got(goal, 31), 217 + goal - 1);
        }
    }

    private static void asGreatAMeanAsCanSettle() {
        Tales tales = new Tales();
        DriftNet net = tales.net;
        tales.hear("2/2");
        net.off(7);
        Nets.ticks(net, 280);
        net.on(7);
        tales.hear("2/1");
        check.same("a mean of 280", tales.known(), "0 1 2 1 2 280 0");
        tales.hear("4/2");
        net.off(7);
        Nets.ticks(net, 138);
        net.on(7);
        tales.hear("4/2");
        net.tick();
        check.same("4 times 139 is less than twice 280", tales.known(), "1 2 4 1 2 280 1");
        net.tick();
        check.same("4 times 140 is not", tales.known(), "1 2 4 2 4 280 0");
    }

    private static void asManyLossesAsCanBe() {
        DriftNet net = Nets.chain(2);
        for (int i = 1; i <= 56; i++) {
            check.same("heard again", net.hear(net.cast(0, true), 0, 1, false), 1);
            Nets.ticks(net, 6);
            check.same("lost again", net.route(1, 0, 2), 2 * i + 1);
        }
    }

    /** What later calls answer is free; but they end, and throw no other exceptions than those of the document. */
    private static void afterTheLastCall() {
        Random random = new Random(512);
        DriftNet net = Nets.mesh(8);
        for (int i = 0; i < 100_000; i++) {
            String thrown = Check.thrownBy(() -> anyCall(net, random));
            boolean fine = thrown.equals("nothing thrown") || thrown.equals("IllegalArgumentException")
                || thrown.equals("IllegalStateException") || thrown.equals("IndexOutOfBoundsException");
            check.same("call " + i + " threw " + thrown, fine, true);
        }
    }

    private static void anyCall(DriftNet net, Random random) {
        int a = random.nextInt(10) - 1;
        int b = random.nextInt(10) - 1;
        int far = random.nextInt(40_000) - 10;
        switch (random.nextInt(12)) {
            case 0:
                net.on(a);
                break;
            case 1:
                net.link(a, b, random.nextInt(3) > 0);
                break;
            case 2:
            case 3:
                net.hear(net.cast(a, random.nextBoolean()), b % 3, b, random.nextBoolean());
                break;
            case 4:
                net.tick();
                break;
            case 5:
                net.move(net.send(a, b, far));
                break;
            case 6:
                net.move(far);
                break;
            case 7:
                net.entry(far, a, b, a - 4);
                break;
            case 8:
                net.got(a, b * 5);
                break;
            case 9:
                net.route(a, b, a);
                break;
            case 10:
                net.circle(a);
                break;
            default:
                net.best(a, b);
        }
    }
}
