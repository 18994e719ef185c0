/** What the tests share: answers that are due, and calls that are run to their end. */
final class Due {
    static int wrong = 0;
    static int checks = 0;

    interface Call {
        void run();
    }

    static void is(String what, long got, long due) {
        checks++;
        if (got != due) {
            wrong++;
            System.out.println(what + " answered " + got + ", due is " + due);
        }
    }

    static void thrown(String what, Class<?> due, Call call) {
        checks++;
        String got = "nothing";
        try {
            call.run();
        } catch (RuntimeException e) {
            if (e.getClass() == due) {
                return;
            }
            got = e.getClass().getSimpleName();
        }
        wrong++;
        System.out.println(what + " throws " + got + ", due is " + due.getSimpleName());
    }

    static void argument(String what, Call call) {
        thrown(what, IllegalArgumentException.class, call);
    }

    static void state(String what, Call call) {
        thrown(what, IllegalStateException.class, call);
    }

    static void bounds(String what, Call call) {
        thrown(what, IndexOutOfBoundsException.class, call);
    }

    /** Runs a call to its end: its value or fault. */
    static int run(ClusterShelf x, int node, int kind, int... given) {
        int[] g = java.util.Arrays.copyOf(given, 4);
        x.call(node, kind, g[0], g[1], g[2], g[3]);
        for (int i = 0; i < 400 && x.result(node, 0) == 1; i++) {
            x.tick(1);
        }
        return x.result(node, 1);
    }

    static void done(ClusterShelf x, int value, int node, int kind, int... given) {
        ended(x, 2, value, node, kind, given);
    }

    static void fault(ClusterShelf x, int value, int node, int kind, int... given) {
        ended(x, 3, value, node, kind, given);
    }

    private static void ended(ClusterShelf x, int state, int value, int node, int kind, int... given) {
        String what = "call of kind " + kind + " at node " + node + " with " + java.util.Arrays.toString(given);
        is(what, run(x, node, kind, given), value);
        is(what + ": how it stands", x.result(node, 0), state);
    }

    static void end(String name) {
        System.out.println(name + ": " + checks + " answers looked at, " + wrong + " wrong");
        if (wrong != 0) {
            System.exit(1);
        }
    }
}
