import java.util.NoSuchElementException;

/**
 * The sentences of sections 4 and 5 and of promises 1 to 16 that name a boundary case: messages, masters, flushes,
 * crashes, recovery, the history.
 */
public final class ScheduleEdgesTest {
    static final int LOOK = 0, MAKE = 1, REMOVE = 2, LINK = 3, READ = 5, WRITE = 6, CUT = 7, STAT = 9, SYNC = 10,
            APPEND = 12, COUNT = 13, ROOM = 14;
    static final int REQUEST = 0, GRANT = 1, CALL_BACK = 2, RELEASE = 3;
    static final int NONE = ClusterShelf.NONE;

    static void go(ClusterShelf x, int node, int kind, int... given) {
        EdgesTest.go(x, node, kind, given);
    }

    static void waits(ClusterShelf x, int node, int kind, int... given) {
        int[] g = java.util.Arrays.copyOf(given, 4);
        Due.is("call of kind " + kind + " at node " + node + " waits", x.call(node, kind, g[0], g[1], g[2], g[3]), 0);
    }

    /** All messages under way: from, to, kind, resource, mode, and in how many ticks each comes. */
    static void messages(String when, ClusterShelf x, int[]... due) {
        Due.is("messages " + when, x.about(1), due.length);
        for (int i = 0; i < Math.min(due.length, x.about(1)); i++) {
            for (int w = 0; w < 6; w++) {
                Due.is("message(" + i + ", " + w + ") " + when, x.message(i, w), due[i][w] + (w == 5 ? x.about(0) : 0));
            }
        }
        Due.bounds("one more message " + when, () -> x.message(due.length, 0));
    }

    static int[] m(int... due) {
        return due;
    }

    static void row(String when, ClusterShelf x, int r, int... due) {
        for (int w = 0; w < due.length; w++) {
            Due.is("row(" + r + ", " + w + ") " + when, x.row(r, w), due[w]);
        }
        Due.is("behind row(" + r + ") " + when, x.row(r, due.length), NONE);
        Due.is("behind row(" + r + ") " + when, x.row(r, due.length + 1), NONE);
    }

    static void lock(String when, ClusterShelf x, int node, int r, int... due) {
        for (int w = 0; w < due.length; w++) {
            Due.is("lock(" + node + ", " + r + ", " + w + ") " + when, x.lock(node, r, w), due[w]);
        }
    }

    static void notCached(String what, ClusterShelf x, int node, int... blocks) {
        for (int b : blocks) {
            Due.thrown(what + ": block " + b, NoSuchElementException.class, () -> x.cached(node, b, 0));
        }
    }

    static void cached(String what, ClusterShelf x, int node, int... blocks) {
        for (int b : blocks) {
            Due.checks++;
            try {
                x.cached(node, b, 0);
            } catch (NoSuchElementException e) {
                Due.wrong++;
                System.out.println(what + ": block " + b + " isn't in the cache of node " + node);
            }
        }
    }

    // ---- messages

    /** The delay is of two nodes in one direction, from now on; the least is 1, the greatest 20. */
    static void delays() {
        ClusterShelf x = new ClusterShelf(4);
        x.delay(0, 3, 20);
        waits(x, 0, STAT, 3, 0);
        waits(x, 3, STAT, 4, 0);
        waits(x, 1, STAT, 3, 0);
        waits(x, 2, STAT, 5, 0);
        messages("at first", x, m(0, 3, REQUEST, 3, 1, 20), m(3, 0, REQUEST, 4, 1, 1), m(1, 3, REQUEST, 3, 1, 1),
                m(2, 1, REQUEST, 5, 1, 1));
        x.tick(1);
        messages("then", x, m(0, 3, REQUEST, 3, 1, 19), m(0, 3, GRANT, 4, 1, 20), m(3, 1, GRANT, 3, 1, 1),
                m(1, 2, GRANT, 5, 1, 1));
        Due.is("two end", x.tick(1), 2);
        messages("then", x, m(0, 3, REQUEST, 3, 1, 18), m(0, 3, GRANT, 4, 1, 19));
        x.delay(0, 3, 1);
        messages("those that were sent stay", x, m(0, 3, REQUEST, 3, 1, 18), m(0, 3, GRANT, 4, 1, 19));
        Due.is("none comes", x.tick(17), 0);
        messages("not yet", x, m(0, 3, REQUEST, 3, 1, 1), m(0, 3, GRANT, 4, 1, 2));
        Due.is("the request comes", x.tick(1), 0);
        messages("the grant is still under way", x, m(0, 3, GRANT, 4, 1, 1), m(3, 0, GRANT, 3, 1, 1));
        Due.is("both grants", x.tick(1), 2);
        Due.is("20 ticks and one", x.result(0, 2), 21);
        waits(x, 0, STAT, 7, 0);
        messages("from now on", x, m(0, 3, REQUEST, 7, 1, 1));
    }

    /** Not ahead of the one that was sent ahead of it between these nodes in this direction. */
    static void notAhead() {
        ClusterShelf x = new ClusterShelf(2);
        x.delay(0, 1, 9);
        waits(x, 0, STAT, 1, 0);
        x.tick(2);
        x.delay(0, 1, 5);
        x.delay(0, 0, 3);
        waits(x, 1, STAT, 2, 0);
        x.tick(1);
        messages("the grant waits for the request ahead of it", x, m(0, 1, REQUEST, 1, 1, 6), m(0, 1, GRANT, 2, 1, 6));
        Due.is("both come at once", x.tick(6), 1);
        messages("node 0's grant", x, m(1, 0, GRANT, 1, 1, 1));
        x.tick(1);
        waits(x, 0, STAT, 3, 0);
        messages("one that came doesn't count", x, m(0, 1, REQUEST, 3, 1, 5));
        x.tick(1);
        x.delay(0, 1, 20);
        waits(x, 1, STAT, 4, 0);
        x.tick(1);
        messages("a later one may come later", x, m(0, 1, REQUEST, 3, 1, 3), m(0, 1, GRANT, 4, 1, 20));
    }

    /** A crash takes the messages from and to a node; those of others stay, in their order. */
    static void messagesThatAreGone() {
        int[][] sent = {{0, 1, REQUEST, 1, 1, 1}, {1, 2, REQUEST, 2, 1, 1}, {2, 3, REQUEST, 3, 1, 1},
            {3, 0, REQUEST, 0, 1, 1}};
        for (int node = 0; node < 4; node++) {
            ClusterShelf x = new ClusterShelf(4);
            for (int i = 0; i < 4; i++) {
                waits(x, i, STAT, sent[i][3], 0);
            }
            messages("ahead of a crash", x, sent);
            x.crash(node, 0);
            int[][] left = {sent[(node + 1) % 4], sent[(node + 2) % 4]};
            java.util.Arrays.sort(left, (p, q) -> p[0] - q[0]);
            messages("when node " + node + " crashed", x, left);
            Due.is("four were sent", x.about(2), 4);
        }
        ClusterShelf x = new ClusterShelf(4);
        for (int i = 0; i < 4; i++) {
            waits(x, i, STAT, sent[i][3], 0);
        }
        x.crash(3, 0);
        x.recover(3);
        messages("laid anew: node 0 is the master of 3", x, m(1, 0, GRANT, 1, 1, 1), m(2, 1, GRANT, 2, 1, 1),
                m(0, 2, GRANT, 3, 1, 1));
        Due.is("three more were sent", x.about(2), 7);
    }

    // ---- masters

    /** The first node that is joined of r % n, r % n + 1, .. (0 behind n - 1); NONE if there is none. */
    static void masters() {
        for (int n = 2; n <= 4; n++) {
            for (int joined = 0; joined < 1 << n; joined++) {
                ClusterShelf x = new ClusterShelf(n);
                for (int i = 0; i < n; i++) {
                    if ((joined >> i & 1) == 0) {
                        x.crash(i, 0);
                        Due.is("a node that is down and joined", x.row(i, 0), i);
                        x.recover(i);
                    }
                }
                for (int r = 0; r < 136; r++) {
                    int due = NONE;
                    for (int i = n - 1; i >= 0; i--) {
                        due = (joined >> (r + i) % n & 1) == 1 ? (r + i) % n : due;
                    }
                    Due.is("the master of " + r + " of " + n + " with " + joined, x.row(r, 0), due);
                }
            }
        }
    }

    /** Three requests in a row: what is granted together, what stands against whom, who is called back. */
    static void rows() {
        ClusterShelf x = new ClusterShelf(4);
        go(x, 0, MAKE, 0, 5, 1);
        waits(x, 1, STAT, 1, 0);
        waits(x, 2, STAT, 1, 0);
        waits(x, 3, CUT, 1, 0);
        x.tick(1);
        row("with three", x, 1, 1, 3, 1, 1, 2, 1, 3, 2);
        messages("for the first alone", x, m(1, 0, CALL_BACK, 1, 1, 1));
        x.tick(1);
        lock("of node 0, which flushes", x, 0, 1, 2, 0, 1, 0, 2);
        messages("when it flushes", x);
        x.tick(9);
        row("all the time", x, 1, 1, 3, 1, 1, 2, 1, 3, 2);
        x.tick(1);
        messages("when the flush is over", x, m(0, 1, RELEASE, 1, 1, 1));
        lock("of node 0", x, 0, 1, 1, 0, NONE, 0, 2);
        x.tick(1);
        row("with the one that is alone", x, 1, 1, 1, 3, 2);
        messages("in the order of nodes", x, m(1, 1, GRANT, 1, 1, 1), m(1, 2, GRANT, 1, 1, 1),
                m(1, 0, CALL_BACK, 1, 0, 1), m(1, 1, CALL_BACK, 1, 0, 1), m(1, 2, CALL_BACK, 1, 0, 1));
        for (int i = 0; i < 3; i++) {
            Due.is("node " + i + " was given it", x.lock(i, 1, 4), 1);
        }
        Due.is("both calls end", x.tick(1), 2);
        messages("each gives it back", x, m(0, 1, RELEASE, 1, 0, 1), m(1, 1, RELEASE, 1, 0, 1),
                m(2, 1, RELEASE, 1, 0, 1));
        x.tick(1);
        row("with none", x, 1, 1, 0);
        messages("when all have", x, m(1, 3, GRANT, 1, 2, 1));
        Due.is("the third ends", x.tick(1), 1);
        lock("of node 3", x, 3, 1, 2, 0, NONE, 0, 2);
        waits(x, 0, CUT, 1, 5);
        waits(x, 1, CUT, 1, 6);
        waits(x, 2, STAT, 1, 2);
        x.tick(1);
        row("with two that are alone", x, 1, 1, 3, 0, 2, 1, 2, 2, 1);
        messages("once", x, m(1, 3, CALL_BACK, 1, 0, 1));
        x.tick(100);
        Due.is("node 0's", x.result(0, 1), 0);
        Due.is("node 1's", x.result(1, 1), 5);
        Due.is("node 2's", x.result(2, 1), 6);
    }

    /** A request stands against other nodes alone: one that holds it shared may have it alone. */
    static void higherModes() {
        ClusterShelf x = new ClusterShelf(3);
        go(x, 0, COUNT, 0);
        waits(x, 0, MAKE, 0, 5, 1);
        lock("asked", x, 0, 0, 1, 2, NONE, 2, 1);
        x.tick(1);
        messages("no call back, but a grant", x, m(0, 0, GRANT, 0, 2, 1));
        x.tick(100);
        go(x, 0, SYNC);
        go(x, 1, COUNT, 0);
        go(x, 2, COUNT, 0);
        for (int i = 0; i < 3; i++) {
            lock("shared by all", x, i, 0, 1, 0, NONE, 0, 1);
        }
        waits(x, 1, REMOVE, 0, 5);
        x.tick(1);
        messages("the other ones are called back", x, m(0, 0, CALL_BACK, 0, 0, 1), m(0, 2, CALL_BACK, 0, 0, 1));
        x.tick(2);
        messages("both gave it back", x, m(0, 1, GRANT, 0, 2, 1));
    }

    // ---- pinning and going down

    /** What is pinned stays so when it is called back, and goes down ahead of all else when it is unpinned. */
    static void pinned() {
        ClusterShelf x = new ClusterShelf(3);
        x.delay(0, 2, 20);
        waits(x, 0, MAKE, 0, 5, 1);
        x.tick(2);
        lock("of the root, which is pinned", x, 0, 0, 2, 0, NONE, 2, 2);
        lock("of the map, which is asked for", x, 0, 128, 0, 2, NONE, 2, 0);
        waits(x, 1, LOOK, 0, 5);
        x.tick(2);
        lock("of the root, when it is called back", x, 0, 0, 2, 0, 1, 2, 2);
        messages("it stays", x, m(0, 2, REQUEST, 128, 2, 18));
        x.tick(18);
        messages("the map comes", x, m(2, 0, GRANT, 128, 2, 1));
        x.delay(0, 0, 20);
        x.tick(1);
        lock("of the root, when a try was undone", x, 0, 0, 1, 2, NONE, 2, 2);
        messages("released ahead of what it asks for", x, m(0, 0, RELEASE, 0, 1, 20), m(0, 0, REQUEST, 0, 2, 20));
        Due.is("three tries", x.result(0, 3), 3);
        lock("of the inode, which is in the list", x, 0, 1, 0, 0, NONE, 2, 0);
        // it waits at the root: the map, which it holds, isn't pinned, and goes down at once
        lock("of the map", x, 0, 128, 2, 0, NONE, 2, 2);
        waits(x, 2, ROOM);
        x.tick(2);
        lock("of the map, when it is called back", x, 0, 128, 1, 0, NONE, 2, 2);
        x.tick(100);
        Due.is("node 0's call ended", x.result(0, 1), 1);
        Due.is("node 1's looked ahead of it", x.result(1, 1), -3);
        x.tick(100);
        Due.is("node 2's call ended", x.result(2, 0), 2);
    }

    /** In the order of their numbers: what is behind the first that can't be pinned isn't pinned. */
    static void pinnedInOrder() {
        ClusterShelf x = new ClusterShelf(3);
        x.delay(0, 1, 20);
        waits(x, 0, MAKE, 0, 5, 1);
        x.tick(4);
        lock("of the root", x, 0, 0, 2, 0, NONE, 2, 2);
        lock("of the inode, between the root and the map", x, 0, 1, 0, 2, NONE, 2, 0);
        lock("of the map", x, 0, 128, 2, 0, NONE, 2, 2);
        waits(x, 1, LOOK, 0, 5);
        waits(x, 2, ROOM);
        x.tick(2);
        lock("of the root, which is pinned", x, 0, 0, 2, 0, 1, 2, 2);
        lock("of the map, which isn't", x, 0, 128, 1, 0, NONE, 2, 2);
        x.tick(100);
        Due.is("an inode", x.result(0, 1), 1);

        // inode 0 comes into the list behind inode 2, but is pinned ahead of it
        ClusterShelf y = new ClusterShelf(3);
        go(y, 0, MAKE, 0, 5, 1);
        go(y, 0, MAKE, 0, 6, 2);
        go(y, 0, LINK, 2, 7, 1);
        go(y, 0, SYNC);
        go(y, 1, REMOVE, 0, 5);
        go(y, 1, SYNC);
        lock("of the root", y, 0, 0, 0, 0, NONE, 0, 0);
        lock("of directory 2", y, 0, 2, 2, 0, NONE, 0, 2);
        y.delay(0, 0, 20);
        waits(y, 0, 4, 2, 7, 0, 8);
        lock("of the root", y, 0, 0, 0, 2, NONE, 2, 0);
        lock("of directory 2", y, 0, 2, 2, 0, NONE, 2, 2);
        waits(y, 2, COUNT, 2);
        y.tick(2);
        lock("of directory 2, which isn't pinned", y, 0, 2, 1, 0, NONE, 2, 2);
        Due.is("node 2 counts ahead of it", y.tick(3), 1);
        Due.is("one entry", y.result(2, 1), 1);
        y.tick(100);
        Due.is("then it goes on", y.result(0, 1), 0);
        Due.done(y, 0, 2, COUNT, 2);
    }

    /** A call that waits for the log has nothing pinned: what is called back goes down first. */
    static void waitingForTheLog() {
        ClusterShelf x = new ClusterShelf(2);
        go(x, 0, MAKE, 0, 5, 1);
        for (int i = 0; i < 11; i++) {
            go(x, 0, WRITE, 1, 16 * i, i);
        }
        waits(x, 0, WRITE, 1, 16 * 11, 11);
        waits(x, 1, READ, 1, 0);
        x.tick(2);
        lock("called back", x, 0, 1, 2, 0, 1, 2, 2);
        Due.is("not yet", x.tick(32), 0);
        Due.is("the flush is over", x.tick(1), 0);
        lock("down, and asked for", x, 0, 1, 1, 2, NONE, 2, 2);
        Due.is("no try without it", x.result(0, 3), 3);
        Due.is("the log is empty", x.node(0, 2), 0);
        x.tick(2);
        Due.is("node 1 reads first", x.result(1, 0), 2);
        x.tick(20);
        Due.is("then it is written", x.result(0, 1), 11);
        Due.is("a fourth try", x.result(0, 3), 4);
    }

    /** What is undone is undone ahead of the flush that begins when the called back root is unpinned. */
    static void undoneAheadOfAFlush() {
        ClusterShelf x = new ClusterShelf(2);
        go(x, 0, MAKE, 0, 5, 1);
        for (int i = 0; i < 11; i++) {
            go(x, 0, WRITE, 1, 16 * i, i);
        }
        x.delay(0, 0, 10);
        waits(x, 0, MAKE, 0, 6, 1);
        waits(x, 1, LOOK, 0, 6);
        x.tick(11);
        lock("of the root, pinned and called back", x, 0, 0, 2, 0, 1, 2, 2);
        Due.is("16 blocks in the log", x.node(0, 2), 16);
        x.tick(9);
        lock("of the root, which waits for the flush", x, 0, 0, 2, 0, 1, 2, 2);
        Due.is("the flush has begun", x.node(0, 3), 34);
        Due.is("nothing else is in the log", x.node(0, 2), 0);
        x.tick(3);
        Due.is("the map without a new inode", x.word(3, 0), 3);
        Due.is("the root's size without a new entry", x.word(4, 2), 2);
        Due.is("the root's block without it", x.word(6, 2), 0);
        x.tick(31);
        lock("of the root, when the flush is over", x, 0, 0, 1, 2, NONE, 2, 2);
        x.tick(100);
        Due.is("node 1 looked ahead of it", x.result(1, 1), -3);
        Due.is("then it was made", x.result(0, 1), 2);
    }

    /** A call is in the flush that begins when it ends, since what it changed is in the log. */
    static void inTheFlushThatItBegins() {
        ClusterShelf x = new ClusterShelf(2);
        x.delay(0, 1, 10);
        waits(x, 0, MAKE, 0, 5, 1);
        x.tick(4);
        lock("of the root, pinned", x, 0, 0, 2, 0, NONE, 2, 2);
        lock("of the inode, asked for", x, 0, 1, 0, 2, NONE, 2, 0);
        waits(x, 1, LOOK, 0, 5);
        x.tick(2);
        lock("of the root, called back", x, 0, 0, 2, 0, 1, 2, 2);
        Due.is("no call ended", x.tick(8), 0);
        Due.is("it ends", x.tick(1), 1);
        Due.is("a flush of four, one write is done", x.node(0, 3), 10);
        Due.is("the log is empty", x.node(0, 2), 0);
        lock("of the root, which waits for it", x, 0, 0, 2, 0, 1, 0, 2);
        x.tick(4);
        Due.is("images and table", x.history(0, 9), 1);
        x.tick(1);
        Due.is("the head", x.history(0, 9), 2);
        x.tick(40);
        Due.is("node 1 sees it", x.result(1, 1), 1);
        Due.is("one flush", x.node(0, 4), 1);
    }

    /** Alone, with a log or a flush: it waits; shared: at once, whatever the log has. */
    static void goingDown() {
        ClusterShelf x = new ClusterShelf(2);
        go(x, 0, MAKE, 0, 5, 1);
        go(x, 0, SYNC);
        go(x, 1, LOOK, 0, 5);
        Due.is("no flush but that of the sync", x.node(0, 4), 1);
        go(x, 0, WRITE, 1, 0, 7);
        Due.is("three blocks in the log", x.node(0, 2), 3);
        go(x, 1, MAKE, 0, 6, 2);
        lock("of the root: gone at once", x, 0, 0, 0, 0, NONE, 0, 0);
        lock("of the map: gone with a flush", x, 0, 128, 0, 0, NONE, 0, 0);
        Due.is("one more flush", x.node(0, 4), 2);
        lock("of the file: it stays", x, 0, 1, 2, 0, NONE, 0, 2);
        go(x, 0, WRITE, 1, 0, 8);
        Due.is("a block in the log", x.node(0, 2), 1);
        waits(x, 0, SYNC);
        Due.is("no log", x.node(0, 2), 0);
        waits(x, 1, READ, 1, 0);
        x.tick(2);
        lock("of the file: a flush is under way", x, 0, 1, 2, 0, 1, 0, 2);
        Due.is("three writes are left", x.node(0, 3), 3);
        Due.is("no other flush", x.node(0, 4), 3);
        Due.is("the sync ends", x.tick(3), 1);
        lock("of the file, when the flush is over", x, 0, 1, 1, 0, NONE, 0, 2);
        messages("it is released", x, m(0, 1, RELEASE, 1, 1, 1));
        x.tick(10);
        Due.is("the word", x.result(1, 1), 8);
        Due.is("three flushes", x.node(0, 4), 3);
    }

    /** Down to shared the blocks stay in the cache; down to 0 they leave: an inode's, its index's, a map. */
    static void leavingTheCache() {
        ClusterShelf x = new ClusterShelf(2);
        go(x, 0, MAKE, 0, 5, 1);
        go(x, 0, WRITE, 1, 0, 1);
        go(x, 0, WRITE, 1, 127, 2);
        go(x, 0, WRITE, 1, 128, 3);
        go(x, 0, WRITE, 1, 383, 4);
        go(x, 0, SYNC);
        Due.is("the root and its block, a map, an inode, its index, four blocks", x.node(0, 5), 9);
        go(x, 1, STAT, 1, 0);
        lock("shared", x, 0, 1, 1, 0, NONE, 0, 1);
        Due.is("all are there", x.node(0, 5), 9);
        Due.is("node 1 has the inode", x.node(1, 5), 1);
        go(x, 1, CUT, 1, 384);
        lock("none", x, 0, 1, 0, 0, NONE, 0, 0);
        Due.is("the root, its block and the map are left", x.node(0, 5), 3);
        notCached("it left", x, 0, 130, 146, 147, 148, 149, 150);
        cached("it stays", x, 0, 128, 129, 145);
        go(x, 1, WRITE, 1, 16, 5);
        Due.is("the map left, too", x.node(0, 5), 2);
        notCached("it left", x, 0, 128);
        go(x, 1, SYNC);
        go(x, 0, READ, 1, 16);
        Due.is("it comes from the disk as it is then", x.result(0, 1), 5);
        Due.is("the inode and a block", x.node(0, 5), 4);
        cached("it is there", x, 0, 130, 151);
        Due.is("node 1 has the inode, the map, the block", x.node(1, 5), 3);
    }

    // ---- flushes

    /** When a flush is over and nobody waits for the log, no other one begins. */
    static void logsThatStay() {
        ClusterShelf x = new ClusterShelf(3);
        go(x, 0, MAKE, 0, 5, 1);
        waits(x, 1, LOOK, 0, 5);
        x.tick(2);
        Due.is("a flush", x.node(0, 3), 10);
        go(x, 0, WRITE, 1, 0, 7);
        x.crash(1, 0);
        x.recover(1);
        lock("called back no more", x, 0, 0, 2, 0, NONE, 0, 2);
        Due.is("it goes on", x.node(0, 3), 10);
        x.tick(10);
        Due.is("it is over", x.node(0, 3), 0);
        Due.is("three blocks stay in the log", x.node(0, 2), 3);
        x.tick(50);
        Due.is("also then", x.node(0, 2), 3);
        Due.is("one flush", x.node(0, 4), 1);
        Due.is("not safe", x.history(1, 9), 1);
        waits(x, 2, READ, 1, 0);
        x.tick(2);
        Due.is("a flush when it is called back", x.node(0, 4), 2);
        Due.is("of three blocks: one write is done", x.node(0, 3), 8);
        x.crash(0, 15);
        Due.is("lost with its node", x.history(1, 9), 3);
        Due.is("the first is safe", x.history(0, 9), 2);
    }

    /** Each node that is up, in order, does its first write, if it has one. */
    static void writesInOrder() {
        ClusterShelf x = files();
        go(x, 1, WRITE, 2, 0, 20);
        go(x, 0, WRITE, 1, 0, 10);
        waits(x, 1, SYNC);
        waits(x, 0, SYNC);
        int writes = x.about(3);
        int ended = x.about(4);
        Due.is("image", x.tick(1), 0);
        Due.is("one of each", x.about(3), writes + 2);
        Due.is("table, head, place", x.tick(3), 0);
        Due.is("both end", x.tick(1), 2);
        Due.is("five of each", x.about(3), writes + 10);
        Due.is("node 0's first", x.history(ended, 0), 0);
        Due.is("then node 1's", x.history(ended + 1, 0), 1);
    }

    /** Files 1 and 2 with a block each (146 and 147); node 0 holds the first alone, node 1 the second. */
    static ClusterShelf files() {
        ClusterShelf x = new ClusterShelf(4);
        go(x, 0, MAKE, 0, 5, 1);
        go(x, 0, MAKE, 0, 6, 1);
        go(x, 0, WRITE, 1, 0, 1);
        go(x, 0, WRITE, 2, 0, 2);
        go(x, 0, SYNC);
        go(x, 1, WRITE, 2, 0, 2);
        go(x, 1, SYNC);
        return x;
    }

    // ---- crashes and recovery

    /** A node that is down has nothing: no cache, log, flush, locks, call; what it had as a master is gone. */
    static void crashes() {
        ClusterShelf x = new ClusterShelf(3);
        go(x, 0, MAKE, 0, 5, 1);
        x.delay(0, 2, 20);
        waits(x, 0, MAKE, 0, 6, 1);
        waits(x, 1, LOOK, 0, 5);
        x.tick(2);
        lock("of the root, pinned and called back", x, 0, 0, 2, 0, 1, 2, 2);
        lock("of the map, pinned", x, 0, 128, 2, 0, NONE, 2, 2);
        lock("of an inode that is asked for", x, 0, 2, 0, 2, NONE, 2, 0);
        messages("ahead of the crash", x, m(0, 2, REQUEST, 2, 2, 18));
        Due.is("a log", x.node(0, 2), 4);
        Due.is("a cache", x.node(0, 5), 4);
        x.crash(0, 0);
        lock("of the root: its master is down", x, 0, 0, 0, 0, NONE, 0, 0);
        lock("of the map: its master knows it", x, 0, 128, 0, 0, NONE, 0, 2);
        lock("of an inode: its master knows it", x, 0, 1, 0, 0, NONE, 0, 2);
        lock("of the inode that it asked for", x, 0, 2, 0, 0, NONE, 0, 0);
        lock("of the root at node 1: it asked", x, 1, 0, 0, 1, NONE, 1, 0);
        messages("when it crashed", x);
        row("of the root", x, 0, 0, 0);
        int[] node = {0, 1, 0, 0, 0, 0, NONE};
        int[] result = {4, 0, 2, 3, 3};
        for (int w = 0; w < 7; w++) {
            Due.is("node(0, " + w + ")", x.node(0, w), node[w]);
        }
        for (int w = 0; w < 5; w++) {
            Due.is("result(0, " + w + ")", x.result(0, w), result[w]);
        }
        notCached("it is down", x, 0, 128, 129, 130, 145);
        Due.is("no images", x.recover(0), 0);
        messages("the request is laid anew", x, m(1, 1, GRANT, 0, 1, 1));
        lock("of the map: no longer", x, 0, 128, 0, 0, NONE, 0, 0);
        x.tick(1);
        Due.is("nothing was made", x.result(1, 1), -3);
        x.start(0);
        lock("it holds nothing", x, 0, 0, 0, 0, NONE, 0, 0);
        Due.is("nothing to wait for", x.call(0, SYNC, 0, 0, 0, 0), 1);
        waits(x, 0, MAKE, 0, 6, 1);
        lock("it must ask", x, 0, 0, 0, 2, NONE, 2, 0);
        Due.is("one try", x.result(0, 3), 1);
        x.tick(100);
        Due.is("the first inode", x.result(0, 1), 1);
        Due.is("looking", x.about(9), 0);
    }

    /** The first TORN words of its next write get to the disk, and no more of it: here 0, 1, 15. */
    static void tornWords() {
        for (int torn : new int[] {0, 1, 15}) {
            ClusterShelf x = new ClusterShelf(2);
            go(x, 0, MAKE, 0, 5, 1);
            for (int i = 0; i < 16; i++) {
                go(x, 0, WRITE, 1, i, i + 1);
            }
            waits(x, 0, SYNC);
            x.tick(4);
            Due.is("the image of the file's block is next", x.node(0, 6), 7);
            x.crash(0, torn);
            for (int i = 0; i < 16; i++) {
                Due.is("word " + i + " of " + torn, x.word(7, i), i < torn ? i + 1 : 0);
            }
            Due.is("no torn write counts", x.about(3), 4);
        }
    }

    /** The images of each node that is down and joined, as many as its HEAD says. */
    static void imagesOfSeveral() {
        for (int crashed = 1; crashed <= 3; crashed++) {
            ClusterShelf x = files();
            int first = x.about(4);
            go(x, 0, WRITE, 1, 0, 10);
            go(x, 1, WRITE, 2, 0, 20);
            waits(x, 0, SYNC);
            waits(x, 1, SYNC);
            x.tick(3);
            int writes = x.about(3);
            for (int i = 0; i < 2; i++) {
                Due.is("one block", x.word(1 + 24 * i, 1), 1);
                Due.is("a valid head", x.word(1 + 24 * i, 2), 1);
                if ((crashed >> i & 1) == 1) {
                    x.crash(i, 0);
                }
            }
            Due.is("looking", x.about(9), 0);
            Due.is("in its place yet", x.word(146, 0), 1);
            Due.is("an older image stays", x.word(4, 0) != 0 ? 1 : 0, 1);
            Due.is("an image each", x.recover(crashed == 2 ? 1 : 0), crashed == 3 ? 2 : 1);
            for (int i = 0; i < 2; i++) {
                boolean down = (crashed >> i & 1) == 1;
                Due.is("joined", x.node(i, 1), down ? 0 : 1);
                Due.is("the head", x.word(1 + 24 * i, 2), down ? 0 : 1);
                Due.is("how many", x.word(1 + 24 * i, 1), 1);
                Due.is("the table", x.word(2 + 24 * i, 0), 146 + i);
                Due.is("0 behind it", x.word(2 + 24 * i, 1), 0);
                Due.is("its place", x.word(146 + i, 0), down ? 10 * i + 10 : i + 1);
                Due.is("it is safe", x.history(first + i, 9), 2);
            }
            Due.is("block 0 has no image", x.word(0, 0), 7177);
            Due.is("no writes", x.about(3), writes);
            int again = crashed == 2 ? 1 : 0;
            x.start(again);
            x.crash(again, 0);
            Due.is("no images any more", x.recover(again), 0);
            Due.is("looking", x.about(9), 0);
        }
    }

    /** As many images as a log can have, with all their words. */
    static void sixteenImages() {
        ClusterShelf x = new ClusterShelf(2);
        go(x, 0, MAKE, 0, 5, 1);
        for (int i = 0; i <= 10; i++) {
            go(x, 0, WRITE, 1, 16 * i + 15, 100 + i);
        }
        Due.is("a log of 16", x.node(0, 2), 16);
        waits(x, 0, SYNC);
        x.tick(18);
        Due.is("the first place is next", x.node(0, 6), 128);
        x.crash(0, 0);
        Due.is("looking", x.about(9), 0);
        Due.is("inodes in the map's place", x.about(8), 1);
        Due.is("images", x.recover(0), 16);
        Due.is("inodes then", x.about(8), 2);
        Due.is("blocks then", x.about(7), 13);
        for (int i = 0; i <= 10; i++) {
            Due.is("a last word", x.word(i < 8 ? 146 + i : 147 + i, 15), 100 + i);
        }
        Due.is("looking", x.about(9), 0);
        Due.done(x, 110, 1, READ, 1, 175);
    }

    /** A call that has ended isn't lost in a crash; nor is one that was never begun. */
    static void crashesOfIdleNodes() {
        ClusterShelf x = new ClusterShelf(3);
        go(x, 0, COUNT, 0);
        go(x, 1, COUNT, 9);
        for (int i = 0; i < 3; i++) {
            x.crash(i, 0);
        }
        Due.is("done", x.result(0, 0), 2);
        Due.is("a fault", x.result(1, 0), 3);
        Due.is("its fault", x.result(1, 1), -2);
        Due.is("its ticks", x.result(1, 2), 2);
        Due.is("none", x.result(2, 0), 0);
        Due.is("none was lost", x.about(5), 0);
        Due.is("two ended", x.about(4), 2);
    }

    /** What the maps on the disk say, whatever a journal has. */
    static void mapsOnTheDisk() {
        ClusterShelf x = new ClusterShelf(2);
        go(x, 0, MAKE, 0, 5, 1);
        waits(x, 0, SYNC);
        x.tick(6);
        Due.is("the head is valid", x.word(1, 2), 1);
        Due.is("inodes", x.about(8), 1);
        Due.is("blocks", x.about(7), 0);
        Due.is("looking", x.about(9), 0);
        x.tick(1);
        Due.is("inodes, when the map is in its place", x.about(8), 2);
        Due.is("blocks", x.about(7), 1);
        Due.is("looking", x.about(9), 0);
    }

    /** No node is up; no node is joined. */
    static void noNode() {
        ClusterShelf x = files();
        go(x, 1, WRITE, 2, 0, 20);
        waits(x, 1, SYNC);
        x.tick(3);
        for (int i = 0; i < 4; i++) {
            x.crash(i, i);
        }
        for (int r = 0; r < 136; r++) {
            row("when no node is up", x, r, r % 4, 0);
            for (int i = 0; i < 4; i++) {
                lock("when no node is up", x, i, r, 0, 0, NONE, 0, 0);
            }
        }
        int time = x.about(0);
        Due.is("time goes on", x.tick(5), 0);
        Due.is("by five", x.about(0), time + 5);
        Due.state("no call", () -> x.call(0, SYNC, 0, 0, 0, 0));
        Due.state("one is down and joined", () -> x.start(2));
        Due.is("looking", x.about(9), 0);
        Due.is("an image", x.recover(3), 1);
        for (int r = 0; r < 136; r++) {
            row("when no node is joined", x, r, NONE, 0);
            for (int i = 0; i < 4; i++) {
                lock("when no node is joined", x, i, r, 0, 0, NONE, 0, 0);
            }
        }
        Due.is("time goes on", x.tick(5), 0);
        Due.state("no call", () -> x.call(0, SYNC, 0, 0, 0, 0));
        messages("when no node is joined", x);
        Due.is("four nodes", x.about(6), 4);
        Due.is("looking", x.about(9), 0);
        x.start(2);
        for (int r = 0; r < 136; r++) {
            row("when node 2 is alone", x, r, 2, 0);
        }
        Due.done(x, 20, 2, READ, 2, 0);
        Due.state("the others are down", () -> x.call(3, SYNC, 0, 0, 0, 0));
    }

    /** Requests are laid anew in the order of nodes, and served in the order of resources. */
    static void requestsLaidAnew() {
        ClusterShelf x = new ClusterShelf(4);
        waits(x, 2, CUT, 3, 0);
        waits(x, 1, STAT, 3, 0);
        waits(x, 0, CUT, 3, 0);
        x.crash(3, 0);
        x.recover(3);
        row("of nodes in order", x, 3, 0, 2, 1, 1, 2, 2);
        messages("for the first two", x, m(0, 0, GRANT, 3, 2, 1), m(0, 0, CALL_BACK, 3, 1, 1));
        lock("given", x, 0, 3, 0, 2, NONE, 2, 2);
        x.tick(100);
        for (int i = 0; i < 3; i++) {
            Due.is("node " + i + " met nothing", x.result(i, 1), i == 1 ? -5 : -4);
        }
        ClusterShelf y = new ClusterShelf(4);
        waits(y, 2, STAT, 3, 0);
        waits(y, 0, STAT, 11, 0);
        waits(y, 1, STAT, 7, 0);
        y.crash(3, 0);
        y.recover(3);
        messages("of resources in order", y, m(0, 2, GRANT, 3, 1, 1), m(0, 1, GRANT, 7, 1, 1),
                m(0, 0, GRANT, 11, 1, 1));
    }

    /** Then the calls of nodes that are up go on, in order; flushes go on, too. */
    static void callsGoOnInOrder() {
        ClusterShelf x = files();
        go(x, 0, WRITE, 1, 0, 10);
        go(x, 1, WRITE, 2, 0, 20);
        waits(x, 2, READ, 2, 0);
        waits(x, 3, READ, 1, 0);
        x.tick(2);
        waits(x, 1, WRITE, 2, 1, 21);
        waits(x, 0, WRITE, 1, 1, 11);
        for (int i = 0; i < 2; i++) {
            lock("called back", x, i, 1 + i, 2, 0, 1, 2, 2);
            Due.is("it flushes", x.node(i, 3), 4);
        }
        int ended = x.about(4);
        x.crash(2, 0);
        x.recover(2);
        for (int i = 0; i < 2; i++) {
            Due.is("its call ended", x.result(i, 1), 11 + 10 * i);
            Due.is("with two tries", x.result(i, 3), 2);
            Due.is("in order", x.history(ended + i, 0), i);
            Due.is("its flush goes on", x.node(i, 3), 4);
            Due.is("the inode and the block", x.node(i, 2), 2);
            lock("called back no more", x, i, 1 + i, 2, 0, NONE, 0, 2);
        }
        messages("node 3's request is laid anew", x, m(1, 0, CALL_BACK, 1, 1, 1));
        Due.is("it ends", x.tick(30), 1);
        Due.is("the word", x.result(3, 1), 10);
        Due.is("two flushes", x.node(0, 4), 3);
        Due.is("the other log stays", x.node(1, 2), 2);
        Due.is("looking", x.about(9), 0);
    }

    // ---- results

    /** The first 400 are kept, and of them what becomes; all are counted. */
    static void theFirst400() {
        ClusterShelf x = new ClusterShelf(2);
        go(x, 0, MAKE, 0, 5, 1);
        for (int i = 1; i < 399; i++) {
            Due.is("at once", x.call(0, LOOK, 0, 5, i, 0), 1);
        }
        Due.bounds("history(399, 0) of 399", () -> x.history(399, 0));
        waits(x, 1, LOOK, 9, 5);
        Due.is("call 400", x.tick(2), 1);
        Due.is("is kept", x.history(399, 0), 1);
        Due.is("with its fault", x.history(399, 7), -2);
        waits(x, 1, LOOK, 10, 5);
        Due.is("call 401", x.tick(2), 1);
        Due.is("is counted", x.about(4), 401);
        Due.bounds("but not kept", () -> x.history(400, 0));
        Due.bounds("whatever is asked", () -> x.history(400, 10));
        Due.is("one more", x.call(0, WRITE, 1, 0, 7, 0), 1);
        Due.is("has ended", x.result(0, 0), 2);
        Due.is("the first isn't safe yet", x.history(0, 9), 1);
        Due.is("a look changed nothing", x.history(398, 9), 0);
        go(x, 0, SYNC);
        Due.is("it is safe", x.history(0, 9), 2);
        Due.is("calls", x.about(4), 403);
        Due.argument("another what", () -> x.history(399, 10));
    }

    /** How many ticks a call takes; how many calls end in some ticks, also in more than one object's life. */
    static void ticks() {
        ClusterShelf x = new ClusterShelf(2);
        x.tick(100);
        x.tick(100);
        waits(x, 0, STAT, 0, 0);
        Due.is("no tick yet", x.result(0, 2), 0);
        Due.is("no ticks", x.tick(0), 0);
        Due.is("still none", x.result(0, 2), 0);
        x.tick(1);
        Due.is("one", x.result(0, 2), 1);
        Due.is("it ends in the second", x.tick(100), 1);
        Due.is("two", x.result(0, 2), 2);
        Due.is("it ended at", x.history(0, 8), 202);
        Due.is("the time", x.about(0), 301);
        Due.is("at once", x.call(0, STAT, 0, 1, 0, 0), 1);
        Due.is("took none", x.result(0, 2), 0);
        Due.is("it ended at", x.history(1, 8), 301);
        waits(x, 1, STAT, 1, 0);
        x.crash(1, 0);
        x.tick(3);
        Due.is("lost at once", x.result(1, 2), 0);
    }

    public static void main(String[] args) {
        delays();
        notAhead();
        messagesThatAreGone();
        masters();
        rows();
        higherModes();
        pinned();
        pinnedInOrder();
        waitingForTheLog();
        undoneAheadOfAFlush();
        inTheFlushThatItBegins();
        goingDown();
        leavingTheCache();
        logsThatStay();
        writesInOrder();
        crashes();
        tornWords();
        imagesOfSeveral();
        sixteenImages();
        crashesOfIdleNodes();
        mapsOnTheDisk();
        noNode();
        requestsLaidAnew();
        callsGoOnInOrder();
        theFirst400();
        ticks();
        Due.end("schedule's edges");
    }
}
