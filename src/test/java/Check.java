/** Counts what was checked and prints what was wrong. */
final class Check {
    interface Call {
        void make();
    }

    private static int made = 0;
    private static int wrong = 0;

    private Check() {
    }

    static void same(String what, long got, long due) {
        made++;
        if (got != due) {
            fail(what + " answered " + got + ", due is " + due);
        }
    }

    static void same(String what, double got, double due) {
        made++;
        if (got != due) {
            fail(what + " answered " + got + ", due is " + due);
        }
    }

    static void same(String what, String got, String due) {
        made++;
        if (!got.equals(due)) {
            fail(what + " answered " + got + ", due is " + due);
        }
    }

    static void yes(String what, boolean got) {
        made++;
        if (!got) {
            fail(what + " is not so");
        }
    }

    static void no(String what, boolean got) {
        yes("not: " + what, !got);
    }

    static void outOfBounds(String what, Call call) {
        throwsIt(what, IndexOutOfBoundsException.class, call);
    }

    static void badState(String what, Call call) {
        throwsIt(what, IllegalStateException.class, call);
    }

    static void badArgument(String what, Call call) {
        throwsIt(what, IllegalArgumentException.class, call);
    }

    /** The very class is asked for: an exception of the machine would be one of its subclasses. */
    private static void throwsIt(String what, Class<?> due, Call call) {
        made++;
        try {
            call.make();
        } catch (RuntimeException e) {
            if (e.getClass() != due) {
                fail(what + " threw " + e.getClass().getName() + ", due is " + due.getName());
            }
            return;
        }
        fail(what + " threw nothing, due is " + due.getName());
    }

    private static void fail(String text) {
        wrong++;
        if (wrong <= 40) {
            System.out.println(text);
        }
    }

    static void end(String name) {
        System.out.println(name + ": " + made + " checks, " + wrong + " wrong");
        if (wrong != 0 || made == 0) {
            System.exit(1);
        }
    }
}
