import java.util.ArrayList;
import java.util.Arrays;
import java.util.List;
import java.util.NoSuchElementException;

/**
 * "A call that throws changes nothing; of several exceptions the one that it names first is thrown."
 * Each argument of each method: the least and the greatest number that it takes, those just outside, and the
 * least and the greatest int; each method on objects whose nodes are up, busy, down, not joined.
 */
public final class RefusedTest {
    static final Class<?> FINE = null;
    static final Class<?> ARGUMENT = IllegalArgumentException.class;
    static final Class<?> STATE = IllegalStateException.class;
    static final Class<?> BOUNDS = IndexOutOfBoundsException.class;
    static final Class<?> NO_ELEMENT = NoSuchElementException.class;
    static final int MIN = Integer.MIN_VALUE;
    static final int MAX = Integer.MAX_VALUE;
    static final int LOOK = 0, MAKE = 1, WRITE = 6, SYNC = 10, COUNT = 13;

    static void due(String what, Class<?> exception, Due.Call call) {
        if (exception != FINE) {
            Due.thrown(what, exception, call);
            return;
        }
        Due.checks++;
        try {
            call.run();
        } catch (RuntimeException e) {
            Due.wrong++;
            System.out.println(what + " throws " + e.getClass().getSimpleName() + ", due is nothing");
        }
    }

    // ---- objects to call

    /** All nodes are up; nothing happened. */
    static ClusterShelf fresh() {
        return new ClusterShelf(4);
    }

    /**
     * Node 0 has a call under way, a flush and a log; node 1 a call under way that waits for it; node 2 one whose
     * request is under way; node 3 is down and joined.
     */
    static ClusterShelf busy() {
        ClusterShelf x = new ClusterShelf(4);
        Due.done(x, 1, 0, MAKE, 0, 5, 1);
        x.call(1, LOOK, 0, 5, 0, 0);
        x.tick(2);
        Due.is("a write into a file of its own", x.call(0, WRITE, 1, 0, 7, 0), 1);
        Due.is("the root is called back: it waits", x.call(0, MAKE, 0, 6, 1, 0), 0);
        x.delay(2, 1, 20);
        Due.is("a slow request", x.call(2, COUNT, 77, 0, 0, 0), 0);
        x.crash(3, 0);
        Due.is("node 0 has a flush", x.node(0, 3), 10);
        Due.is("and a log", x.node(0, 2), 3);
        for (int i = 0; i < 3; i++) {
            Due.is("a call under way at node " + i, x.result(i, 0), 1);
        }
        Due.is("a message is under way", x.about(1), 1);
        return x;
    }

    /** Node 0 is up, node 1 down and joined, nodes 2 and 3 down and not joined. */
    static ClusterShelf apart() {
        ClusterShelf x = new ClusterShelf(4);
        Due.done(x, 1, 1, MAKE, 0, 5, 2);
        x.crash(2, 0);
        x.crash(3, 0);
        x.recover(3);
        x.crash(1, 0);
        return x;
    }

    /** No node is joined. */
    static ClusterShelf gone() {
        ClusterShelf x = new ClusterShelf(4);
        for (int i = 0; i < 4; i++) {
            x.crash(i, 0);
        }
        x.recover(0);
        return x;
    }

    // ---- call

    /**
     * What each kind has, a sign each: i an inode, n a name, m the kind of a new inode, w the place of a word, s a
     * size, e the number of an entry, t what STAT gives, . anything.
     */
    static final String[] HAS = {"in..", "inm.", "in..", "ini.", "inin", "iw..", "iw..", "is..", "ie..", "it..", "....",
        "iw..", "i...", "i...", "...."};

    static int[] range(char sign) {
        switch (sign) {
            case 'i': return new int[] {0, 127};
            case 'm': return new int[] {1, 2};
            case 'w': return new int[] {0, 383};
            case 's': return new int[] {0, 384};
            case 'e': return new int[] {0, 191};
            case 't': return new int[] {0, 3};
            default: return new int[] {MIN, MAX};
        }
    }

    static int[] taken(char sign) {
        int[] r = range(sign);
        return sign == 'n' ? new int[] {MIN, -1, 1, MAX} : new int[] {r[0], r[1]};
    }

    static int[] notTaken(char sign) {
        int[] r = range(sign);
        return sign == '.' ? new int[0] : sign == 'n' ? new int[] {0} : new int[] {MIN, r[0] - 1, r[1] + 1, MAX};
    }

    static int[] given(int kind) {
        int[] g = new int[4];
        for (int i = 0; i < 4; i++) {
            g[i] = HAS[kind].charAt(i) == 'n' ? 5 + i : HAS[kind].charAt(i) == 'm' ? 1 : 0;
        }
        return g;
    }

    static void call(String where, ClusterShelf x, int node, int kind, int[] g, Class<?> exception) {
        due("call(" + node + ", " + kind + ", " + Arrays.toString(g) + ")" + where, exception,
                () -> x.call(node, kind, g[0], g[1], g[2], g[3]));
    }

    /** What a call has is refused at any node, whatever it is about. */
    static void refuseCalls(String where, ClusterShelf x, int[] statesDue) {
        List<Integer> before = Whole.of(x);
        for (int kind = 0; kind < 15; kind++) {
            for (int node : new int[] {MIN, -1, 4, MAX}) {
                call(where, x, node, kind, given(kind), ARGUMENT);
            }
            for (int node = 0; node < 4; node++) {
                for (int i = 0; i < 4; i++) {
                    for (int v : notTaken(HAS[kind].charAt(i))) {
                        int[] g = given(kind);
                        g[i] = v;
                        call(where, x, node, kind, g, ARGUMENT);
                    }
                }
                if (statesDue[node] != 0) {
                    call(where, x, node, kind, given(kind), STATE);
                }
            }
        }
        for (int node = 0; node < 4; node++) {
            for (int kind : new int[] {MIN, -1, 15, MAX}) {
                call(where, x, node, kind, new int[] {0, 5, 1, 5}, ARGUMENT);
            }
        }
        Whole.unchanged("a call that is refused" + where, x, before);
    }

    static void refusedCalls() {
        refuseCalls(" at a new one", fresh(), new int[] {0, 0, 0, 0});
        refuseCalls(" at a busy one", busy(), new int[] {1, 1, 1, 1});
        refuseCalls(" with nodes down", apart(), new int[] {0, 1, 1, 1});
        refuseCalls(" with no node joined", gone(), new int[] {1, 1, 1, 1});
    }

    static void takenCalls() {
        for (int kind = 0; kind < 15; kind++) {
            for (int i = 0; i < 4; i++) {
                for (int v : taken(HAS[kind].charAt(i))) {
                    int[] g = given(kind);
                    g[i] = v;
                    ClusterShelf x = fresh();
                    call(" at a new one", x, i, kind, g, FINE);
                    Due.is("the call was begun", x.result(i, 0), kind == SYNC ? 2 : 1);
                }
            }
        }
    }

    // ---- the rest of the schedule

    static final int[] NODES = {MIN, -1, 0, 3, 4, MAX};

    static boolean in(int v, int low, int high) {
        return low <= v && v <= high;
    }

    static void delays() {
        for (int from : NODES) {
            for (int to : NODES) {
                for (int ticks : new int[] {MIN, -1, 0, 1, 20, 21, MAX}) {
                    boolean fine = in(from, 0, 3) && in(to, 0, 3) && in(ticks, 1, 20);
                    ClusterShelf x = fresh();
                    due("delay(" + from + ", " + to + ", " + ticks + ")", fine ? FINE : ARGUMENT,
                            () -> x.delay(from, to, ticks));
                    for (int f = 0; f < 4; f += 3) {
                        x.call(f, COUNT, 4 - f % 2, 0, 0, 0);
                    }
                    Due.is("a message of node 0 to node 0", x.message(0, 5), fine && from == 0 && to == 0 ? ticks : 1);
                    Due.is("a message of node 3 to node 3", x.message(1, 5), fine && from == 3 && to == 3 ? ticks : 1);
                }
            }
        }
        ClusterShelf x = busy();
        List<Integer> before = Whole.of(x);
        Due.argument("no ticks", () -> x.delay(0, 0, 0));
        Due.argument("too many ticks", () -> x.delay(0, 0, 21));
        Due.argument("a node too many", () -> x.delay(4, 0, 5));
        Whole.unchanged("a delay that is refused", x, before);
        x.delay(0, 0, 20);
        x.delay(3, 0, 2);
        Whole.unchanged("a delay that isn't refused", x, before);
    }

    static void ticks() {
        ClusterShelf x = busy();
        List<Integer> before = Whole.of(x);
        for (int n : new int[] {MIN, -1, 101, MAX}) {
            due("tick(" + n + ")", ARGUMENT, () -> x.tick(n));
        }
        Due.is("no ticks", x.tick(0), 0);
        Whole.unchanged("a tick that is refused, or none", x, before);
        int time = x.about(0);
        due("tick(1)", FINE, () -> x.tick(1));
        Due.is("the time", x.about(0), time + 1);
        due("tick(100)", FINE, () -> x.tick(100));
        Due.is("the time", x.about(0), time + 101);
    }

    static void crashes() {
        ClusterShelf x = busy();
        List<Integer> before = Whole.of(x);
        for (int node : NODES) {
            for (int torn : new int[] {MIN, -1, 16, MAX}) {
                due("crash(" + node + ", " + torn + ")", ARGUMENT, () -> x.crash(node, torn));
            }
            for (int torn : new int[] {0, 15}) {
                Class<?> exception = in(node, 0, 3) ? STATE : ARGUMENT;
                if (node != 0) {
                    due("crash(" + node + ", " + torn + ")", exception, () -> x.crash(node, torn));
                }
            }
        }
        Whole.unchanged("a crash that is refused", x, before);
        for (int node = 0; node < 3; node++) {
            int i = node;
            due("crash(" + i + ", 15)", FINE, () -> x.crash(i, 15));
            Due.state("a second crash", () -> x.crash(i, 0));
        }
        for (int i = 0; i < 4; i++) {
            int node = i;
            Due.state("a crash when no node is joined", () -> gone().crash(node, 0));
        }
    }

    static void recoveries() {
        ClusterShelf x = busy();
        List<Integer> before = Whole.of(x);
        for (int node : new int[] {MIN, -1, 4, MAX}) {
            due("recover(" + node + ")", ARGUMENT, () -> x.recover(node));
        }
        for (int node = 0; node < 3; node++) {
            int i = node;
            Due.state("recover(" + i + ") of one that is up", () -> x.recover(i));
        }
        Whole.unchanged("a recovery that is refused", x, before);
        ClusterShelf y = apart();
        before = Whole.of(y);
        Due.state("recover(0) of one that is up", () -> y.recover(0));
        Due.state("recover(2) of one that isn't joined", () -> y.recover(2));
        Due.state("recover(3) of one that isn't joined", () -> y.recover(3));
        Whole.unchanged("a recovery that is refused", y, before);
        due("recover(1)", FINE, () -> y.recover(1));
        due("recover(1) again", STATE, () -> y.recover(1));
        for (int i = 0; i < 4; i++) {
            int node = i;
            Due.state("a recovery when no node is joined", () -> gone().recover(node));
        }
    }

    static void starts() {
        ClusterShelf x = apart();
        List<Integer> before = Whole.of(x);
        for (int node : new int[] {MIN, -1, 4, MAX}) {
            due("start(" + node + ")", ARGUMENT, () -> x.start(node));
        }
        Due.state("start(0) of one that is up", () -> x.start(0));
        Due.state("start(1) of one that is joined", () -> x.start(1));
        Due.state("start(2), when another one is down and joined", () -> x.start(2));
        Due.state("start(3), when another one is down and joined", () -> x.start(3));
        Whole.unchanged("a start that is refused", x, before);
        x.recover(1);
        due("start(3)", FINE, () -> x.start(3));
        due("start(3) again", STATE, () -> x.start(3));
        due("start(2)", FINE, () -> x.start(2));
        due("start(0)", STATE, () -> x.start(0));
        for (int i = 0; i < 4; i++) {
            int node = i;
            due("a start when no node is joined", FINE, () -> gone().start(node));
        }
    }

    // ---- results and what is seen

    static List<ClusterShelf> all() {
        return new ArrayList<>(List.of(fresh(), busy(), apart(), gone()));
    }

    static void results() {
        for (ClusterShelf x : all()) {
            for (int node : NODES) {
                for (int what : new int[] {MIN, -1, 0, 4, 5, MAX}) {
                    due("result(" + node + ", " + what + ")", in(node, 0, 3) && in(what, 0, 4) ? FINE : ARGUMENT,
                            () -> x.result(node, what));
                }
                for (int what : new int[] {MIN, -1, 0, 6, 7, MAX}) {
                    due("node(" + node + ", " + what + ")", in(node, 0, 3) && in(what, 0, 6) ? FINE : ARGUMENT,
                            () -> x.node(node, what));
                }
            }
            for (int what : new int[] {MIN, -1, 0, 9, 10, MAX}) {
                due("about(" + what + ")", in(what, 0, 9) ? FINE : ARGUMENT, () -> x.about(what));
            }
        }
    }

    static void rowsOfCallsAndMessages() {
        for (ClusterShelf x : all()) {
            int calls = x.about(4);
            int messages = x.about(1);
            for (int i : new int[] {MIN, -1, 0, calls - 1, calls, messages - 1, messages, MAX}) {
                for (int what : new int[] {MIN, -1, 0, 5, 6, 9, 10, MAX}) {
                    due("history(" + i + ", " + what + ")",
                            !in(i, 0, calls - 1) ? BOUNDS : in(what, 0, 9) ? FINE : ARGUMENT,
                            () -> x.history(i, what));
                    due("message(" + i + ", " + what + ")",
                            !in(i, 0, messages - 1) ? BOUNDS : in(what, 0, 5) ? FINE : ARGUMENT,
                            () -> x.message(i, what));
                }
            }
        }
    }

    static void words() {
        for (ClusterShelf x : all()) {
            for (int block : new int[] {MIN, -1, 0, 639, 640, MAX}) {
                for (int i : new int[] {MIN, -1, 0, 15, 16, MAX}) {
                    boolean fine = in(block, 0, 639) && in(i, 0, 15);
                    due("word(" + block + ", " + i + ")", fine ? FINE : BOUNDS, () -> x.word(block, i));
                    for (int node : NODES) {
                        due("cached(" + node + ", " + block + ", " + i + ")",
                                !in(node, 0, 3) ? ARGUMENT : fine ? NO_ELEMENT : BOUNDS,
                                () -> x.cached(node, block, i));
                    }
                }
            }
        }
        ClusterShelf x = busy();
        due("cached(0, 145, 0)", FINE, () -> x.cached(0, 145, 0));
        due("cached(0, 145, 15)", FINE, () -> x.cached(0, 145, 15));
        due("cached(0, 145, 16)", BOUNDS, () -> x.cached(0, 145, 16));
        due("cached(0, 145, -1)", BOUNDS, () -> x.cached(0, 145, -1));
        due("cached(4, 145, 0)", ARGUMENT, () -> x.cached(4, 145, 0));
        x.crash(0, 0);
        due("cached(0, 145, 0) when it is down", NO_ELEMENT, () -> x.cached(0, 145, 0));
        due("cached(0, 145, 16) when it is down", BOUNDS, () -> x.cached(0, 145, 16));
    }

    static void locks() {
        for (ClusterShelf x : all()) {
            for (int r : new int[] {MIN, -1, 0, 127, 128, 135, 136, MAX}) {
                for (int what : new int[] {MIN, -1, 0, 4, 5, MAX}) {
                    for (int node : NODES) {
                        boolean fine = in(node, 0, 3) && in(r, 0, 135) && in(what, 0, 4);
                        due("lock(" + node + ", " + r + ", " + what + ")", fine ? FINE : ARGUMENT,
                                () -> x.lock(node, r, what));
                    }
                    due("row(" + r + ", " + what + ")", in(r, 0, 135) && what >= 0 ? FINE : ARGUMENT,
                            () -> x.row(r, what));
                }
            }
        }
    }

    static void looksChangeNothing() {
        for (ClusterShelf x : all()) {
            List<Integer> before = Whole.of(x);
            Whole.unchanged("looking at all that can be seen", x, before);
        }
    }

    public static void main(String[] args) {
        refusedCalls();
        takenCalls();
        delays();
        ticks();
        crashes();
        recoveries();
        starts();
        results();
        rowsOfCallsAndMessages();
        words();
        locks();
        looksChangeNothing();
        Due.end("refused");
    }
}
