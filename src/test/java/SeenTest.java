import java.util.NoSuchElementException;

/** Promises 8 to 16: result, history, word, cached, lock, row, message, node, about. */
public final class SeenTest {
    static final int LOOK = 0, MAKE = 1, WRITE = 6, STAT = 9, SYNC = 10, ROOM = 14;
    static final int NONE = ClusterShelf.NONE;

    static void results() {
        ClusterShelf x = new ClusterShelf(2);
        Due.argument("result(-1, 0)", () -> x.result(-1, 0));
        Due.argument("result(2, 0)", () -> x.result(2, 0));
        Due.argument("result(0, -1)", () -> x.result(0, -1));
        Due.argument("result(0, 5)", () -> x.result(0, 5));
        x.tick(7);
        x.call(1, MAKE, 0, 5, 1, 0);
        x.tick(1);
        int[] under = {1, 0, 1, 1, 1};
        for (int w = 0; w < 5; w++) {
            Due.is("result(1, " + w + ") under way", x.result(1, w), under[w]);
        }
        x.tick(30);
        int[] done = {2, 1, 6, 4, 3};
        for (int w = 0; w < 5; w++) {
            Due.is("result(1, " + w + ") done", x.result(1, w), done[w]);
        }
        x.call(1, MAKE, 0, 5, 1, 0);
        int[] fault = {3, -6, 0, 2, 1};
        for (int w = 0; w < 5; w++) {
            Due.is("result(1, " + w + ") with a fault", x.result(1, w), fault[w]);
        }
        x.call(1, SYNC, 0, 0, 0, 0);
        x.tick(3);
        int[] waits = {1, 0, 3, 0, 0};
        for (int w = 0; w < 5; w++) {
            Due.is("result(1, " + w + ") of a sync that waits", x.result(1, w), waits[w]);
        }
        x.tick(1);
        x.crash(1, 0);
        x.tick(1);
        int[] lost = {4, 0, 4, 0, 0};
        for (int w = 0; w < 5; w++) {
            Due.is("result(1, " + w + ") lost", x.result(1, w), lost[w]);
        }
        x.recover(1);
        x.start(1);
        Due.is("it stays lost", x.result(1, 0), 4);
        x.call(1, SYNC, 0, 0, 0, 0);
        Due.is("a sync of nothing is tried once", x.result(1, 3), 1);
        Due.is("and done", x.result(1, 0), 2);
    }

    static void histories() {
        ClusterShelf x = new ClusterShelf(2);
        Due.bounds("history(0, 0) of a new one", () -> x.history(0, 0));
        Due.bounds("history(0, 10) of a new one", () -> x.history(0, 10));
        Due.run(x, 0, MAKE, 0, 5, 1, 99);
        Due.run(x, 0, LOOK, 0, 6, -4, 98);
        int[][] due = {{0, 1, 0, 5, 1, 99, 2, 1, 6, 1}, {0, 0, 0, 6, -4, 98, 3, -3, 6, 0}};
        for (int i = 0; i < 2; i++) {
            for (int w = 0; w < 10; w++) {
                Due.is("history(" + i + ", " + w + ")", x.history(i, w), due[i][w]);
            }
        }
        Due.bounds("history(-1, 0)", () -> x.history(-1, 0));
        Due.bounds("history(2, 0)", () -> x.history(2, 0));
        Due.argument("history(0, -1)", () -> x.history(0, -1));
        Due.argument("history(0, 10)", () -> x.history(0, 10));
        // a call that ends while a flush is under way isn't in that flush
        x.call(1, LOOK, 0, 5, 0, 0);
        x.tick(2);
        Due.is("node 0 flushes", x.node(0, 3), 10);
        Due.is("at once", x.call(0, WRITE, 1, 0, 7, 0), 1);
        x.tick(9);
        Due.is("the first is safe", x.history(0, 9), 2);
        Due.is("the write isn't", x.history(2, 9), 1);
        Due.is("the write is in the log", x.node(0, 2), 3);
        x.tick(1);
        Due.is("the next flush has it", x.node(0, 3), 9);
        x.crash(0, 0);
        Due.is("the first is safe still", x.history(0, 9), 2);
        Due.is("the write is gone", x.history(2, 9), 3);
        Due.is("the look changed nothing", x.history(1, 9), 0);
    }

    static void longHistories() {
        ClusterShelf x = new ClusterShelf(2);
        for (int i = 0; i < 405; i++) {
            x.call(0, SYNC, i, 0, 0, 0);
        }
        Due.is("all ended", x.about(4), 405);
        Due.is("the last that is kept", x.history(399, 2), 399);
        Due.bounds("one more", () -> x.history(400, 2));
        Due.bounds("one more", () -> x.history(404, 2));
    }

    static void words() {
        ClusterShelf x = new ClusterShelf(4);
        Due.is("word(0, 0)", x.word(0, 0), 7177);
        Due.is("word(639, 15)", x.word(639, 15), 0);
        Due.bounds("word(-1, 0)", () -> x.word(-1, 0));
        Due.bounds("word(640, 0)", () -> x.word(640, 0));
        Due.bounds("word(0, -1)", () -> x.word(0, -1));
        Due.bounds("word(0, 16)", () -> x.word(0, 16));
        Due.bounds("word(MAX, 0)", () -> x.word(Integer.MAX_VALUE, 0));
        Due.bounds("word(MIN, 0)", () -> x.word(Integer.MIN_VALUE, 0));
        Due.thrown("cached(0, 0, 0)", NoSuchElementException.class, () -> x.cached(0, 0, 0));
        Due.argument("cached(4, 640, 0)", () -> x.cached(4, 640, 0));
        Due.argument("cached(-1, 0, 0)", () -> x.cached(-1, 0, 0));
        Due.bounds("cached(0, 640, 0)", () -> x.cached(0, 640, 0));
        Due.bounds("cached(0, -1, 0)", () -> x.cached(0, -1, 0));
        Due.bounds("cached(0, 0, 16)", () -> x.cached(0, 0, 16));
        Due.bounds("cached(0, 0, -1)", () -> x.cached(0, 0, -1));
        Due.run(x, 1, MAKE, 0, 5, 1);
        Due.is("in the cache", x.cached(1, 128, 0), 3);
        Due.is("not on the disk", x.word(128, 0), 1);
        Due.is("the block was taken", x.cached(1, 145, 0), 5);
        Due.thrown("the other node hasn't it", NoSuchElementException.class, () -> x.cached(0, 128, 0));
        Due.bounds("no such word", () -> x.cached(0, 128, 16));
        x.crash(1, 0);
        Due.thrown("it is down", NoSuchElementException.class, () -> x.cached(1, 128, 0));
    }

    static void locks() {
        ClusterShelf x = new ClusterShelf(3);
        Due.argument("lock(3, 0, 0)", () -> x.lock(3, 0, 0));
        Due.argument("lock(-1, 0, 0)", () -> x.lock(-1, 0, 0));
        Due.argument("lock(0, -1, 0)", () -> x.lock(0, -1, 0));
        Due.argument("lock(0, 136, 0)", () -> x.lock(0, 136, 0));
        Due.argument("lock(0, 0, -1)", () -> x.lock(0, 0, -1));
        Due.argument("lock(0, 0, 5)", () -> x.lock(0, 0, 5));
        int[] none = {0, 0, NONE, 0, 0};
        for (int w = 0; w < 5; w++) {
            Due.is("lock(0, 135, " + w + ")", x.lock(0, 135, w), none[w]);
        }
        Due.run(x, 0, MAKE, 0, 5, 1);
        x.call(1, STAT, 0, 0, 0, 0);
        x.call(0, STAT, 3, 0, 0, 0);
        x.tick(2);
        int[][] due = {{2, 0, 1, 0, 2}, {0, 1, NONE, 1, 0}};
        for (int n = 0; n < 2; n++) {
            for (int w = 0; w < 5; w++) {
                Due.is("lock(" + n + ", 0, " + w + ")", x.lock(n, 0, w), due[n][w]);
            }
        }
        x.call(2, STAT, 3, 0, 0, 0);
        x.crash(1, 0);
        Due.is("the master keeps its row", x.row(0, 1), 1);
        Due.is("with node 1", x.row(0, 2), 1);
        x.tick(20);
        Due.is("the down node was given it", x.lock(1, 0, 4), 1);
        Due.is("but holds nothing", x.lock(1, 0, 0), 0);
        Due.is("node 0 has it shared", x.lock(0, 0, 4), 1);
    }

    static void rows() {
        ClusterShelf x = new ClusterShelf(3);
        Due.argument("row(-1, 0)", () -> x.row(-1, 0));
        Due.argument("row(136, 0)", () -> x.row(136, 0));
        Due.argument("row(0, -1)", () -> x.row(0, -1));
        for (int r = 0; r < 136; r++) {
            Due.is("row(" + r + ", 0)", x.row(r, 0), r % 3);
            Due.is("row(" + r + ", 1)", x.row(r, 1), 0);
            Due.is("row(" + r + ", 2)", x.row(r, 2), NONE);
            Due.is("row(" + r + ", MAX)", x.row(r, Integer.MAX_VALUE), NONE);
        }
        Due.run(x, 0, MAKE, 0, 5, 1);
        x.call(1, MAKE, 0, 6, 1, 0);
        x.tick(1);
        x.call(2, LOOK, 0, 6, 0, 0);
        x.tick(1);
        int[] due = {0, 2, 1, 2, 2, 1, NONE, NONE};
        for (int w = 0; w < due.length; w++) {
            Due.is("row(0, " + w + ")", x.row(0, w), due[w]);
        }
        x.crash(2, 0);
        x.recover(2);
        Due.is("behind 2 comes 0", x.row(128, 0), 0);
        Due.is("the row is laid anew", x.row(0, 1), 1);
        x.crash(0, 0);
        x.recover(0);
        Due.is("node 1 is left", x.row(0, 0), 1);
        Due.is("it has got it", x.row(0, 1), 0);
    }

    static void messages() {
        ClusterShelf x = new ClusterShelf(2);
        Due.bounds("message(0, 0)", () -> x.message(0, 0));
        Due.bounds("message(0, 9)", () -> x.message(0, 9));
        Due.bounds("message(-1, 9)", () -> x.message(-1, 9));
        x.call(1, LOOK, 0, 5, 0, 0);
        int[] due = {1, 0, 0, 0, 1, 1};
        for (int w = 0; w < 6; w++) {
            Due.is("message(0, " + w + ")", x.message(0, w), due[w]);
        }
        Due.argument("message(0, -1)", () -> x.message(0, -1));
        Due.argument("message(0, 6)", () -> x.message(0, 6));
        Due.bounds("message(1, 0)", () -> x.message(1, 0));
        x.tick(1);
        int[] grant = {0, 1, 1, 0, 1, 2};
        for (int w = 0; w < 6; w++) {
            Due.is("message(0, " + w + ") then", x.message(0, w), grant[w]);
        }
    }

    static void nodes() {
        ClusterShelf x = new ClusterShelf(2);
        Due.argument("node(2, 0)", () -> x.node(2, 0));
        Due.argument("node(-1, 0)", () -> x.node(-1, 0));
        Due.argument("node(0, -1)", () -> x.node(0, -1));
        Due.argument("node(0, 7)", () -> x.node(0, 7));
        Due.run(x, 1, MAKE, 0, 5, 1);
        x.call(1, SYNC, 0, 0, 0, 0);
        x.tick(5);
        int[] due = {1, 1, 0, 6, 1, 4, 25};
        for (int w = 0; w < 7; w++) {
            Due.is("node(1, " + w + ")", x.node(1, w), due[w]);
        }
    }

    static void abouts() {
        ClusterShelf x = new ClusterShelf(4);
        Due.argument("about(-1)", () -> x.about(-1));
        Due.argument("about(10)", () -> x.about(10));
        Due.run(x, 1, MAKE, 0, 5, 1);
        int[] due = {6, 0, 6, 0, 1, 0, 4, 0, 1, 0};
        for (int w = 0; w < 10; w++) {
            Due.is("about(" + w + ")", x.about(w), due[w]);
        }
        x.call(1, SYNC, 0, 0, 0, 0);
        x.tick(6);
        Due.is("writes", x.about(3), 6);
        Due.is("blocks of the disk", x.about(7), 0);
        x.tick(5);
        Due.is("blocks of the disk", x.about(7), 1);
        Due.is("inodes of the disk", x.about(8), 2);
        Due.is("calls", x.about(4), 2);
        x.call(3, ROOM, 0, 0, 0, 0);
        x.crash(3, 0);
        Due.is("lost", x.about(5), 1);
        Due.is("calls", x.about(4), 2);
        Due.is("messages that were sent", x.about(2), 7);
        Due.is("messages under way", x.about(1), 0);
    }

    public static void main(String[] args) {
        results();
        histories();
        longHistories();
        words();
        locks();
        rows();
        messages();
        nodes();
        abouts();
        Due.end("seen");
    }
}
