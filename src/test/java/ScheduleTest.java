/** Promises 1 and 3 to 7: a new object, delay, tick, crash, recover, start, and how locks go between nodes. */
public final class ScheduleTest {
    static final int LOOK = 0, MAKE = 1, REMOVE = 2, READ = 5, WRITE = 6, STAT = 9, SYNC = 10;
    static final int NONE = ClusterShelf.NONE;

    static void newObjects() {
        int[][] nodes = {{Integer.MIN_VALUE, 2}, {0, 2}, {1, 2}, {2, 2}, {3, 3}, {4, 4}, {5, 4},
            {Integer.MAX_VALUE, 4}};
        for (int[] n : nodes) {
            ClusterShelf x = new ClusterShelf(n[0]);
            Due.is("nodes of a new one of " + n[0], x.about(6), n[1]);
            int[] about = {0, 0, 0, 0, 0, 0, n[1], 0, 1, 0};
            for (int w = 0; w < 10; w++) {
                Due.is("about(" + w + ") of a new one", x.about(w), about[w]);
            }
            for (int b = 0; b < 640; b++) {
                for (int i = 0; i < 16; i++) {
                    int due = b == 0 && i == 0 ? 7177 : b == 0 && i == 1 ? n[1]
                            : b == 128 && i == 0 ? 1 : b == 129 && i == 0 ? 2 : b == 129 && i == 1 ? 1 : 0;
                    Due.is("word(" + b + ", " + i + ") of a new one", x.word(b, i), due);
                }
            }
            for (int k = 0; k < n[1]; k++) {
                int[] node = {1, 1, 0, 0, 0, 0, NONE};
                for (int w = 0; w < 7; w++) {
                    Due.is("node(" + k + ", " + w + ") of a new one", x.node(k, w), node[w]);
                }
                for (int w = 0; w < 5; w++) {
                    Due.is("result(" + k + ", " + w + ") of a new one", x.result(k, w), 0);
                }
            }
            Due.argument("a node too many", () -> x.node(n[1], 0));
        }
        Due.is("NONE", ClusterShelf.NONE, -1);
    }

    static void message(ClusterShelf x, int i, int... due) {
        for (int w = 0; w < due.length; w++) {
            Due.is("message(" + i + ", " + w + ")", x.message(i, w), due[w]);
        }
    }

    static void delays() {
        ClusterShelf x = new ClusterShelf(2);
        x.delay(0, 1, 20);
        Due.is("it asks", x.call(0, STAT, 1, 0, 0, 0), 0);
        message(x, 0, 0, 1, 0, 1, 1, 20);
        x.delay(0, 1, 1);
        message(x, 0, 0, 1, 0, 1, 1, 20);
        Due.is("it asks", x.call(1, STAT, 0, 0, 0, 0), 0);
        message(x, 1, 1, 0, 0, 0, 1, 1);
        Due.is("none ended", x.tick(1), 0);
        message(x, 1, 0, 1, 1, 0, 1, 20);
        Due.is("none ended", x.tick(18), 0);
        Due.is("the grant came behind the request", x.tick(1), 1);
        Due.is("of node 1", x.result(1, 0), 2);
        message(x, 0, 1, 0, 1, 1, 1, 21);
        Due.is("the other one", x.tick(1), 1);
        Due.is("a fault", x.result(0, 1), -5);

        ClusterShelf y = new ClusterShelf(3);
        y.delay(0, 1, 20);
        y.delay(0, 0, 3);
        y.call(0, STAT, 1, 0, 0, 0);
        y.delay(0, 1, 1);
        y.crash(2, 0);
        y.recover(2);
        message(y, 0, 1, 0, 1, 1, 1, 1);
        y.call(1, STAT, 0, 0, 0, 0);
        Due.is("node 0's call ends", y.tick(1), 1);
        message(y, 0, 0, 1, 1, 0, 1, 2);
        y.call(0, STAT, 3, 0, 0, 0);
        message(y, 1, 0, 0, 0, 3, 1, 4);

        Due.argument("no ticks", () -> y.delay(0, 1, 0));
        Due.argument("21 ticks", () -> y.delay(0, 1, 21));
        Due.argument("from no node", () -> y.delay(-1, 1, 1));
        Due.argument("to no node", () -> y.delay(0, 3, 1));
    }

    static void ticks() {
        ClusterShelf x = new ClusterShelf(2);
        Due.argument("tick(-1)", () -> x.tick(-1));
        Due.argument("tick(101)", () -> x.tick(101));
        Due.is("time", x.about(0), 0);
        Due.is("tick(0)", x.tick(0), 0);
        Due.is("time", x.about(0), 0);
        Due.is("tick(100)", x.tick(100), 0);
        Due.is("time", x.about(0), 100);
        x.call(0, LOOK, 0, 5, 0, 0);
        x.call(1, LOOK, 0, 5, 0, 0);
        Due.is("both end in two ticks", x.tick(2), 2);
        Due.is("time", x.about(0), 102);
    }

    static int[] WRITES = {3, 4, 5, 6, 2, 1, 128, 129, 130, 145, 1};

    /** A file was made and its flush has done so many writes. */
    static ClusterShelf flushed(int writes) {
        ClusterShelf x = new ClusterShelf(2);
        Due.done(x, 1, 0, MAKE, 0, 5, 1);
        Due.is("it waits for the log", x.call(0, SYNC, 0, 0, 0, 0), 0);
        for (int w = 0; w < writes; w++) {
            Due.is("its next write", x.node(0, 6), WRITES[w]);
            Due.is("writes left", x.node(0, 3), 11 - w);
            Due.is("not yet safe behind " + w, x.history(0, 9), w > 5 ? 2 : 1);
            Due.is("it ends with the last write", x.tick(1), w == 10 ? 1 : 0);
        }
        return x;
    }

    static void flushes() {
        ClusterShelf x = flushed(11);
        Due.is("writes", x.about(3), 11);
        Due.is("no next write", x.node(0, 6), NONE);
        Due.is("no writes left", x.node(0, 3), 0);
        Due.is("ticks", x.result(0, 2), 11);
        int[][] due = {{1, 1, 4, 0}, {2, 128, 129, 130, 145, 0}, {3, 3, 1, 0, 0}, {4, 2, 1, 2, 145, 0}, {5, 1, 1, 0, 0},
            {6, 5, 1, 0}, {7, 0, 0}, {128, 3, 1, 0, 0}, {129, 2, 1, 2, 145, 0}, {130, 1, 1, 0, 0}, {145, 5, 1, 0}};
        for (int[] d : due) {
            for (int i = 1; i < d.length; i++) {
                Due.is("word(" + d[0] + ", " + (i - 1) + ")", x.word(d[0], i - 1), d[i]);
            }
        }
        Due.is("safe", x.history(0, 9), 2);
        Due.done(x, 7, 0, WRITE, 1, 0, 7);
        Due.done(x, 0, 0, SYNC);
        Due.is("the second flush", x.word(1, 0), 2);
        Due.is("of a map, an inode, a block", x.word(1, 1), 3);
        Due.is("is over", x.word(1, 2), 0);
        Due.is("the table", x.word(2, 2), 146);
        Due.is("and 0 behind it", x.word(2, 3), 0);
        Due.is("an image stays", x.word(6, 0), 5);
    }

    /** Every place in a flush, and every number of torn words. */
    static void tornWrites() {
        for (int w = 0; w <= 10; w++) {
            for (int torn = 0; torn < 16; torn++) {
                String at = " behind " + w + " writes and " + torn + " words";
                ClusterShelf x = flushed(w);
                x.crash(0, torn);
                boolean safe = w > 5 || w == 5 && torn > 2;
                boolean valid = safe && !(w == 10 && torn > 2);
                Due.is("safe" + at, x.history(0, 9), safe ? 2 : 3);
                Due.is("the head" + at, x.word(1, 2), valid ? 1 : 0);
                Due.is("writes" + at, x.about(3), w);
                Due.is("looking" + at, x.about(9), 0);
                Due.is("lost" + at, x.about(5), 1);
                Due.is("images" + at, x.recover(0), valid ? 4 : 0);
                Due.is("the head then" + at, x.word(1, 2), 0);
                Due.is("no writes of recovery" + at, x.about(3), w);
                Due.is("looking then" + at, x.about(9), 0);
                Due.is("used blocks" + at, x.about(7), safe ? 1 : 0);
                Due.is("used inodes" + at, x.about(8), safe ? 2 : 1);
                Due.is("the look" + at, Due.run(x, 1, LOOK, 0, 5), safe ? 1 : -3);
            }
        }
        ClusterShelf x = flushed(0);
        x.crash(0, 3);
        int[] due = {3, 1, 0};
        for (int i = 0; i < 3; i++) {
            Due.is("three words of an image", x.word(3, i), due[i]);
        }
        x = flushed(1);
        x.crash(0, 1);
        Due.is("one word of an image", x.word(4, 0), 2);
        Due.is("and no more", x.word(4, 1), 0);
    }

    static void crashes() {
        ClusterShelf x = new ClusterShelf(3);
        Due.argument("no such node", () -> x.crash(3, 0));
        Due.argument("torn -1", () -> x.crash(0, -1));
        Due.argument("torn 16", () -> x.crash(0, 16));
        Due.done(x, 1, 0, MAKE, 0, 5, 1);
        Due.done(x, 2, 1, MAKE, 0, 6, 1);
        x.tick(40);
        Due.is("node 1 has the root", x.lock(1, 0, 0), 2);
        x.call(0, MAKE, 0, 7, 1, 0);
        x.call(2, STAT, 0, 0, 0, 0);
        x.tick(1);
        Due.is("node 0's request is first", x.row(0, 2), 0);
        Due.is("node 2's is behind it", x.row(0, 4), 2);
        Due.is("two are in the row", x.row(0, 1), 2);
        Due.is("a call back is under way", x.about(1), 1);
        x.crash(0, 0);
        Due.is("the master is still node 0", x.row(0, 0), 0);
        Due.is("its row is gone", x.row(0, 1), 0);
        Due.is("no request", x.row(0, 2), NONE);
        Due.is("nor what it gave", x.lock(1, 0, 4), 0);
        Due.is("node 1 holds it", x.lock(1, 0, 0), 2);
        Due.is("node 2 asked for it", x.lock(2, 0, 1), 1);
        Due.is("no messages", x.about(1), 0);
        Due.is("what another master gave stays", x.lock(0, 1, 4), 2);
        Due.is("it holds nothing", x.lock(0, 1, 0), 0);
        Due.is("the call is lost", x.result(0, 0), 4);
        Due.is("its value", x.result(0, 1), 0);
        Due.is("its ticks", x.result(0, 2), 1);
        Due.is("its tries", x.result(0, 3), 1);
        Due.is("its list", x.result(0, 4), 1);
        Due.is("one is lost", x.about(5), 1);
        x.tick(3);
        Due.is("its ticks stay", x.result(0, 2), 1);
        int[] node = {0, 1, 0, 0, 0, 0, NONE};
        for (int w = 0; w < 7; w++) {
            Due.is("node(0, " + w + ") when it is down", x.node(0, w), node[w]);
        }
        Due.state("down already", () -> x.crash(0, 0));
        Due.argument("torn 16 of one that is down", () -> x.crash(0, 16));
        int sent = x.about(2);
        x.call(1, STAT, 3, 0, 0, 0);
        Due.is("it was sent", x.about(2), sent + 1);
        Due.is("and is gone at once", x.about(1), 0);
        Due.is("it asked", x.lock(1, 3, 1), 1);
        Due.is("one image: none", x.recover(0), 0);
        Due.is("node 1 is the master now", x.row(0, 0), 1);
        Due.is("it gave itself what it holds", x.lock(1, 0, 4), 2);
        Due.is("node 2's request is laid anew", x.row(0, 2), 2);
        Due.is("in its mode", x.row(0, 3), 1);
        Due.is("node 1's request was granted", x.row(3, 1), 0);
        Due.is("a call back and a grant", x.about(1), 2);
        message(x, 0, 1, 1, 2, 0, 1, x.about(0) + 1);
        message(x, 1, 1, 1, 1, 3, 1, x.about(0) + 1);
        x.tick(40);
        Due.is("node 2's call ended", x.result(2, 1), 2);
        Due.is("node 1's, too", x.result(1, 1), -5);
        Due.is("looking", x.about(9), 0);
    }

    static void recoveries() {
        ClusterShelf x = flushed(7);
        Due.argument("no such node", () -> x.recover(2));
        Due.argument("nor this", () -> x.recover(-1));
        Due.state("it is up", () -> x.recover(0));
        x.call(1, MAKE, 0, 9, 1, 0);
        x.crash(1, 0);
        Due.is("no flush, no images", x.recover(1), 0);
        Due.state("it isn't joined", () -> x.recover(1));
        x.crash(0, 0);
        Due.state("node 0 is down and joined", () -> x.start(1));
        Due.is("four images, when no node is up", x.recover(0), 4);
        Due.is("no master", x.row(0, 0), NONE);
        Due.is("no row", x.row(0, 1), 0);
        Due.is("no request", x.row(0, 2), NONE);
        Due.is("nothing is given", x.lock(0, 0, 4), 0);
        Due.is("not joined", x.node(0, 1), 0);
        Due.is("the place has it", x.word(145, 0), 5);
        Due.argument("no such node", () -> x.start(2));
        x.start(1);
        Due.state("it is up", () -> x.start(1));
        Due.is("node 1 is the master of all", x.row(0, 0), 1);
        Due.done(x, 1, 1, LOOK, 0, 5);
        x.start(0);
        Due.is("node 0 is the master of its own again", x.row(0, 0), 0);
        Due.is("and knows what node 1 holds", x.lock(1, 0, 4), 1);
        Due.is("flushes since it is up", x.node(0, 4), 0);
        Due.done(x, 2, 0, MAKE, 0, 6, 1);
        Due.done(x, 0, 0, SYNC);
        Due.is("its first flush", x.word(1, 0), 1);
        Due.is("node 1 lost it", x.lock(1, 0, 0), 0);
        x.crash(0, 0);
        x.crash(1, 0);
        Due.is("all that are down and joined", x.recover(1), 0);
        Due.is("also node 0", x.node(0, 1), 0);
        Due.state("so it can't be recovered again", () -> x.recover(0));
        x.start(0);
        Due.done(x, 2, 0, LOOK, 0, 6);
    }

    /** Laid anew: call backs are forgotten, a flush goes on, and a call that waited for a call back goes on. */
    static void laidAnew() {
        ClusterShelf x = new ClusterShelf(3);
        Due.done(x, 1, 0, MAKE, 0, 5, 1);
        x.call(1, LOOK, 0, 5, 0, 0);
        x.tick(2);
        Due.is("node 0 is called back", x.lock(0, 0, 2), 1);
        Due.is("its flush", x.node(0, 3), 10);
        Due.is("a call must wait", x.call(0, MAKE, 0, 6, 1, 0), 0);
        Due.is("it asks for nothing", x.lock(0, 0, 1), 0);
        x.crash(2, 15);
        Due.is("no images", x.recover(2), 0);
        Due.is("called back no more", x.lock(0, 0, 2), NONE);
        Due.is("the flush goes on", x.node(0, 3), 10);
        Due.is("the call waits for an inode", x.lock(0, 2, 1), 2);
        Due.is("node 1's request stands", x.row(0, 2), 1);
        message(x, 0, 0, 0, 2, 0, 1, x.about(0) + 1);
        x.tick(2);
        Due.is("the call ended", x.result(0, 0), 2);
        Due.is("its root had been called back, and waits", x.lock(0, 0, 2), 1);
        x.tick(60);
        Due.is("node 1 sees the new one", x.result(1, 1), 1);
        Due.is("two flushes", x.node(0, 4), 2);
        Due.is("looking", x.about(9), 0);
    }

    /** A start lays the locks anew, too: calls of all nodes that are up go on. */
    static void laidAnewByStart() {
        for (int n = 0; n < 2; n++) {
            ClusterShelf x = new ClusterShelf(3);
            int node = n;
            int other = 1 - n;
            x.crash(2, 0);
            x.recover(2);
            Due.done(x, 1, node, MAKE, 0, 5, 1);
            x.call(other, LOOK, 0, 5, 0, 0);
            x.tick(2);
            Due.is("it is called back", x.lock(node, 0, 2), 1);
            Due.is("a call must wait", x.call(node, MAKE, 0, 6, 1, 0), 0);
            Due.is("it asks for nothing", x.lock(node, 2, 1), 0);
            x.start(2);
            Due.is("called back no more", x.lock(node, 0, 2), NONE);
            Due.is("the call goes on and asks for an inode", x.lock(node, 2, 1), 2);
            Due.is("of its new master", x.message(1, 1), 2);
            x.tick(60);
            Due.is("it made one", x.result(node, 1), 2);
            Due.is("the other one's call ended", x.result(other, 1), 1);
            Due.is("looking", x.about(9), 0);
        }
    }

    /** Shared and alone: who is called back to what, and what leaves the cache. */
    static void callsBack() {
        ClusterShelf x = new ClusterShelf(3);
        Due.done(x, 1, 0, MAKE, 0, 5, 1);
        Due.done(x, 1, 1, LOOK, 0, 5);
        Due.is("node 0 holds the root shared", x.lock(0, 0, 0), 1);
        Due.is("node 1, too", x.lock(1, 0, 0), 1);
        Due.is("its cache stays", x.cached(0, 129, 0), 2);
        int flushes = x.node(0, 4);
        Due.is("it must ask", x.call(2, MAKE, 0, 6, 1, 0), 0);
        x.tick(1);
        message(x, 0, 0, 0, 2, 0, 0, x.about(0) + 1);
        message(x, 1, 0, 1, 2, 0, 0, x.about(0) + 1);
        x.tick(1);
        Due.is("node 0 gave it back", x.lock(0, 0, 0), 0);
        Due.is("node 1, too", x.lock(1, 0, 0), 0);
        Due.thrown("it left the cache", java.util.NoSuchElementException.class, () -> x.cached(0, 129, 0));
        Due.thrown("its block, too", java.util.NoSuchElementException.class, () -> x.cached(0, 145, 0));
        Due.is("its inode stays", x.cached(0, 130, 0), 1);
        Due.is("the master doesn't know yet", x.lock(0, 0, 4), 1);
        message(x, 0, 0, 0, 3, 0, 0, x.about(0) + 1);
        message(x, 1, 1, 0, 3, 0, 0, x.about(0) + 1);
        x.tick(1);
        Due.is("now it does", x.lock(0, 0, 4), 0);
        Due.is("and gave it to node 2", x.lock(2, 0, 4), 2);
        Due.is("which hasn't it yet", x.lock(2, 0, 0), 0);
        x.tick(1);
        Due.is("now it has", x.lock(2, 0, 0), 2);
        x.tick(40);
        Due.is("the new inode", x.result(2, 1), 2);
        Due.is("node 0 needed no flush", x.node(0, 4), flushes);
    }

    public static void main(String[] args) {
        newObjects();
        delays();
        ticks();
        flushes();
        tornWrites();
        crashes();
        recoveries();
        laidAnew();
        laidAnewByStart();
        callsBack();
        Due.end("schedule");
    }
}
