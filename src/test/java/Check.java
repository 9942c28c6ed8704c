import java.util.function.IntSupplier;

/** Counts and prints the answers that are not the ones that are due. */
final class Check {
    interface Call {
        void run();
    }

    private int asked = 0;
    private int wrong = 0;

    void same(String what, long got, long due) {
        same(what, Long.toString(got), Long.toString(due));
    }

    void same(String what, boolean got, boolean due) {
        same(what, Boolean.toString(got), Boolean.toString(due));
    }

    void same(String what, String got, String due) {
        asked++;
        if (!got.equals(due)) {
            wrong++;
            System.out.println(what + " answered " + got + ", due is " + due);
        }
    }

    void illegalArgument(String what, Call call) {
        same(what, thrownBy(call), "IllegalArgumentException");
    }

    void illegalState(String what, Call call) {
        same(what, thrownBy(call), "IllegalStateException");
    }

    void outOfBounds(String what, Call call) {
        same(what, thrownBy(call), "IndexOutOfBoundsException");
    }

    static String thrownBy(Call call) {
        try {
            call.run();
            return "nothing thrown";
        } catch (RuntimeException e) {
            return e.getClass().getSimpleName();
        }
    }

    static String answer(IntSupplier call) {
        try {
            return Integer.toString(call.getAsInt());
        } catch (RuntimeException e) {
            return "throws." + e.getClass().getSimpleName();
        }
    }

    void end() {
        System.out.println(asked + " answers asked, " + wrong + " wrong");
        if (wrong != 0 || asked == 0) {
            System.exit(1);
        }
    }
}
