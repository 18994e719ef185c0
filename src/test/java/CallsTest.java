/** Promise 2: what each kind of call does, meets and refuses. */
public final class CallsTest {
    static final int LOOK = 0, MAKE = 1, REMOVE = 2, LINK = 3, RENAME = 4, READ = 5, WRITE = 6, CUT = 7, ENTRY = 8,
            STAT = 9, SYNC = 10, ADD = 11, APPEND = 12, COUNT = 13, ROOM = 14;

    static void directories() {
        ClusterShelf x = new ClusterShelf(2);
        Due.done(x, 1, 0, MAKE, 0, 5, 1);
        Due.fault(x, -6, 0, MAKE, 0, 5, 2);
        Due.fault(x, -2, 0, MAKE, 1, 5, 1);
        Due.fault(x, -2, 0, MAKE, 9, 5, 1);
        Due.done(x, 2, 0, MAKE, 0, -6, 2);
        Due.done(x, 1, 1, LOOK, 0, 5);
        Due.done(x, 2, 1, LOOK, 0, -6);
        Due.fault(x, -3, 1, LOOK, 0, 6);
        Due.fault(x, -2, 1, LOOK, 1, 5);
        Due.done(x, 2, 1, LINK, 0, 8, 1);
        Due.fault(x, -6, 1, LINK, 0, 8, 1);
        Due.fault(x, -6, 1, LINK, 0, 8, 2);
        Due.fault(x, -4, 1, LINK, 0, 9, 2);
        Due.fault(x, -4, 1, LINK, 0, 9, 77);
        Due.fault(x, -4, 1, LINK, 0, 9, 0);
        Due.fault(x, -2, 1, LINK, 1, 9, 1);
        Due.done(x, 5, 0, ENTRY, 0, 0);
        Due.done(x, -6, 0, ENTRY, 0, 1);
        Due.done(x, 8, 0, ENTRY, 0, 2);
        Due.fault(x, -3, 0, ENTRY, 0, 3);
        Due.fault(x, -3, 0, ENTRY, 0, 191);
        Due.fault(x, -2, 0, ENTRY, 1, 0);
        Due.done(x, 3, 0, COUNT, 0);
        Due.done(x, 0, 0, COUNT, 2);
        Due.fault(x, -2, 0, COUNT, 1);
        Due.done(x, 2, 0, STAT, 1, 1);
        Due.done(x, 0, 0, RENAME, 0, 8, 2, 4);
        Due.done(x, 1, 1, LOOK, 2, 4);
        Due.fault(x, -8, 1, REMOVE, 0, -6);
        Due.fault(x, -9, 0, RENAME, 0, -6, 2, 9);
        Due.fault(x, -2, 0, RENAME, 0, 5, 1, 9);
        Due.fault(x, -2, 0, RENAME, 1, 5, 0, 9);
        Due.fault(x, -3, 0, RENAME, 0, 99, 2, 9);
        Due.fault(x, -6, 0, RENAME, 0, 5, 2, 4);
        Due.fault(x, -6, 0, RENAME, 0, 5, 0, -6);
        Due.done(x, 0, 0, RENAME, 0, 5, 0, 5);
        Due.is("a rename to the same name changes nothing", x.history(x.about(4) - 1, 9), 0);
        Due.done(x, 0, 0, RENAME, 0, -6, 0, 60);
        Due.done(x, 2, 0, LOOK, 0, 60);
        Due.fault(x, -3, 0, REMOVE, 0, -6);
        Due.fault(x, -2, 0, REMOVE, 1, 5);
        Due.done(x, 0, 0, REMOVE, 0, 5);
        Due.done(x, 1, 1, STAT, 1, 1);
        Due.done(x, 0, 1, REMOVE, 2, 4);
        Due.fault(x, -5, 0, STAT, 1, 0);
        Due.done(x, 0, 1, REMOVE, 0, 60);
        Due.fault(x, -5, 0, STAT, 2, 2);
        Due.done(x, 0, 1, COUNT, 0);
        Due.done(x, 6, 1, STAT, 0, 2);
        Due.done(x, 375, 1, ROOM);
        Due.is("looking", x.about(9), 0);
    }

    /** An entry is put into the first that is none; the entry that a rename left is one. */
    static void entries() {
        ClusterShelf x = new ClusterShelf(2);
        for (int i = 1; i <= 4; i++) {
            Due.done(x, i, 0, MAKE, 0, 10 + i, 1);
        }
        Due.done(x, 0, 0, REMOVE, 0, 12);
        Due.done(x, 0, 0, RENAME, 0, 14, 0, 24);
        Due.done(x, 11, 0, ENTRY, 0, 0);
        Due.done(x, 24, 0, ENTRY, 0, 1);
        Due.done(x, 13, 0, ENTRY, 0, 2);
        Due.done(x, 8, 0, STAT, 0, 2);
        Due.done(x, 2, 0, MAKE, 0, 15, 2);
        Due.done(x, 15, 0, ENTRY, 0, 3);
        Due.done(x, 8, 0, STAT, 0, 2);
        Due.done(x, 0, 0, SYNC);
        int[] due = {11, 1, 24, 4, 13, 3, 15, 2};
        for (int i = 0; i < 8; i++) {
            Due.is("word " + i + " of the root", x.word(145, i), due[i]);
        }
    }

    static void files() {
        ClusterShelf x = new ClusterShelf(3);
        Due.done(x, 1, 0, MAKE, 0, 5, 1);
        Due.done(x, 1, 0, STAT, 1, 0);
        Due.done(x, 0, 0, STAT, 1, 2);
        Due.done(x, 0, 0, STAT, 1, 3);
        Due.done(x, 1, 0, STAT, 0, 3);
        Due.fault(x, -10, 0, READ, 1, 0);
        Due.done(x, 77, 0, WRITE, 1, 3, 77);
        Due.done(x, 4, 1, STAT, 1, 2);
        Due.done(x, 1, 1, STAT, 1, 3);
        Due.done(x, 78, 0, WRITE, 1, 300, 78);
        Due.done(x, 301, 1, STAT, 1, 2);
        Due.done(x, 3, 1, STAT, 1, 3);
        Due.done(x, 77, 2, READ, 1, 3);
        Due.done(x, 0, 2, READ, 1, 4);
        Due.done(x, 0, 2, READ, 1, 100);
        Due.done(x, 0, 2, READ, 1, 200);
        Due.done(x, 78, 2, READ, 1, 300);
        Due.fault(x, -10, 2, READ, 1, 301);
        Due.fault(x, -4, 2, READ, 0, 0);
        Due.fault(x, -4, 2, READ, 8, 0);
        Due.fault(x, -4, 2, WRITE, 0, 0, 1);
        Due.fault(x, -4, 2, ADD, 0, 0, 1);
        Due.fault(x, -4, 2, APPEND, 0, 1);
        Due.fault(x, -4, 2, CUT, 0, 0);
        Due.done(x, 82, 2, ADD, 1, 3, 5);
        Due.done(x, 7, 2, ADD, 1, 10, 7);
        Due.done(x, 6, 2, ADD, 1, 60, 6);
        Due.done(x, Integer.MIN_VALUE + 81, 2, ADD, 1, 3, Integer.MAX_VALUE);
        Due.done(x, 4, 2, STAT, 1, 3);
        Due.done(x, 301, 2, APPEND, 1, 9);
        Due.done(x, 9, 0, READ, 1, 301);
        Due.done(x, 302, 0, CUT, 1, 384);
        Due.fault(x, -7, 0, APPEND, 1, 9);
        Due.done(x, 1, 0, WRITE, 1, 383, 1);
        Due.done(x, 384, 0, STAT, 1, 2);
        Due.done(x, 0, 0, SYNC);
        Due.is("looking", x.about(9), 0);
    }

    static void cuts() {
        ClusterShelf x = new ClusterShelf(2);
        Due.done(x, 1, 0, MAKE, 0, 5, 1);
        for (int i : new int[] {0, 16, 127, 128, 144, 200, 383}) {
            Due.done(x, i + 1, 0, WRITE, 1, i, i + 1);
        }
        Due.done(x, 8, 0, STAT, 1, 3);
        Due.done(x, 384, 0, CUT, 1, 383);
        Due.done(x, 8, 0, STAT, 1, 3);
        Due.done(x, 383, 0, CUT, 1, 384);
        Due.done(x, 0, 0, READ, 1, 383);
        Due.done(x, 384, 0, CUT, 1, 368);
        Due.done(x, 7, 0, STAT, 1, 3);
        Due.done(x, 368, 0, CUT, 1, 145);
        Due.done(x, 6, 0, STAT, 1, 3);
        Due.done(x, 145, 0, CUT, 1, 129);
        Due.done(x, 5, 0, STAT, 1, 3);
        Due.done(x, 129, 0, READ, 1, 128);
        Due.done(x, 129, 0, CUT, 1, 128);
        Due.done(x, 3, 0, STAT, 1, 3);
        Due.done(x, 128, 0, CUT, 1, 200);
        Due.done(x, 0, 0, READ, 1, 128);
        Due.done(x, 128, 0, READ, 1, 127);
        Due.done(x, 200, 0, CUT, 1, 1);
        Due.done(x, 1, 0, STAT, 1, 3);
        Due.done(x, 1, 0, READ, 1, 0);
        Due.done(x, 1, 0, CUT, 1, 0);
        Due.done(x, 0, 0, STAT, 1, 3);
        Due.done(x, 375, 0, ROOM);
        Due.done(x, 44, 0, WRITE, 1, 4, 44);
        Due.done(x, 5, 0, CUT, 1, 4);
        Due.done(x, 4, 0, CUT, 1, 9);
        Due.done(x, 0, 0, READ, 1, 4);
        Due.done(x, 0, 0, SYNC);
        Due.is("looking", x.about(9), 0);
        Due.is("data blocks that are used", x.about(7), 2);
        Due.is("the cut is in the history with 1 or 2", x.history(x.about(4) - 3, 9), 2);
    }

    /** Which blocks a cut reads, and that a taken block or a new inode isn't read. */
    static void reads() {
        ClusterShelf x = new ClusterShelf(2);
        Due.done(x, 1, 0, MAKE, 0, 5, 1);
        Due.is("the root, the map, the inode, a block", x.node(0, 5), 4);
        Due.done(x, 1, 0, WRITE, 1, 300, 1);
        Due.is("and an index and a block", x.node(0, 5), 6);
        Due.done(x, 1, 0, WRITE, 1, 0, 1);
        Due.done(x, 301, 1, STAT, 1, 2);
        Due.is("the inode alone", x.node(1, 5), 1);
        Due.done(x, 3, 1, STAT, 1, 3);
        Due.is("and its index", x.node(1, 5), 2);
        Due.done(x, 0, 1, READ, 1, 200);
        Due.is("no block has the word", x.node(1, 5), 2);
        Due.done(x, 1, 1, READ, 1, 0);
        Due.is("and a block", x.node(1, 5), 3);
        Due.done(x, 301, 1, CUT, 1, 384);
        Due.is("384 reads no index", x.node(1, 2), 1);
        Due.done(x, 5, 0, WRITE, 1, 1, 5);
        Due.is("all left node 1", x.node(1, 5), 0);
        Due.done(x, 384, 1, CUT, 1, 384);
        Due.is("the inode alone again", x.node(1, 5), 1);
        Due.done(x, 384, 1, CUT, 1, 369);
        Due.is("and the index for the last block", x.node(1, 5), 2);
        Due.is("which has none", x.node(1, 2), 1);
        Due.done(x, 369, 1, CUT, 1, 302);
        Due.is("the last block's words are 0", x.node(1, 2), 2);
        Due.is("and it was read", x.node(1, 5), 3);
        Due.done(x, 302, 1, CUT, 1, 0);
        Due.is("what was given back has left, a map came", x.node(1, 5), 2);
        Due.is("and is in the log", x.node(1, 2), 2);
    }

    static void refused() {
        ClusterShelf x = new ClusterShelf(3);
        int[][] bad = {
            {-1, LOOK, 0, 5, 0, 0}, {3, LOOK, 0, 5, 0, 0}, {0, -1, 0, 5, 0, 0}, {0, 15, 0, 5, 0, 0},
            {0, LOOK, -1, 5, 0, 0}, {0, LOOK, 128, 5, 0, 0}, {0, LOOK, 0, 0, 0, 0},
            {0, MAKE, 128, 5, 1, 0}, {0, MAKE, 0, 0, 1, 0}, {0, MAKE, 0, 5, 0, 0}, {0, MAKE, 0, 5, 3, 0},
            {0, REMOVE, -1, 5, 0, 0}, {0, REMOVE, 0, 0, 0, 0},
            {0, LINK, 128, 5, 1, 0}, {0, LINK, 0, 0, 1, 0}, {0, LINK, 0, 5, -1, 0}, {0, LINK, 0, 5, 128, 0},
            {0, RENAME, -1, 5, 0, 6}, {0, RENAME, 0, 0, 0, 6}, {0, RENAME, 0, 5, 128, 6}, {0, RENAME, 0, 5, 0, 0},
            {0, READ, 128, 0, 0, 0}, {0, READ, 0, -1, 0, 0}, {0, READ, 0, 384, 0, 0},
            {0, WRITE, 128, 0, 0, 0}, {0, WRITE, 0, -1, 0, 0}, {0, WRITE, 0, 384, 0, 0},
            {0, CUT, 128, 0, 0, 0}, {0, CUT, 0, -1, 0, 0}, {0, CUT, 0, 385, 0, 0},
            {0, ENTRY, 128, 0, 0, 0}, {0, ENTRY, 0, -1, 0, 0}, {0, ENTRY, 0, 192, 0, 0},
            {0, STAT, 128, 0, 0, 0}, {0, STAT, 0, -1, 0, 0}, {0, STAT, 0, 4, 0, 0},
            {0, ADD, -1, 0, 0, 0}, {0, ADD, 0, -1, 0, 0}, {0, ADD, 0, 384, 0, 0},
            {0, APPEND, 128, 0, 0, 0}, {0, COUNT, -1, 0, 0, 0},
            {Integer.MIN_VALUE, SYNC, 0, 0, 0, 0}, {0, Integer.MAX_VALUE, 0, 0, 0, 0},
        };
        for (int[] b : bad) {
            Due.argument("call" + java.util.Arrays.toString(b), () -> x.call(b[0], b[1], b[2], b[3], b[4], b[5]));
        }
        Due.is("nothing was begun", x.result(0, 0), 0);
        Due.is("nothing was sent", x.about(2), 0);
        Due.is("what a call hasn't doesn't matter", x.call(1, SYNC, -9, 999, -9, 0), 1);
        Due.is("nor here", x.call(0, COUNT, 0, -9, 999, -9), 0);
        Due.state("a second call", () -> x.call(0, SYNC, 0, 0, 0, 0));
        Due.argument("a wrong second call", () -> x.call(0, COUNT, 128, 0, 0, 0));
        x.crash(2, 0);
        Due.state("a call at a node that is down", () -> x.call(2, SYNC, 0, 0, 0, 0));
        Due.argument("a wrong call at a node that is down", () -> x.call(2, SYNC + 5, 0, 0, 0, 0));
        Due.is("the first call is under way", x.result(0, 0), 1);
    }

    /** Tries and lists: each resource that is met ahead of its pinning costs a try. */
    static void tries() {
        ClusterShelf x = new ClusterShelf(3);
        Due.is("it must ask", x.call(0, MAKE, 0, 5, 1, 0), 0);
        Due.is("one try so far", x.result(0, 3), 1);
        Due.is("for the root", x.lock(0, 0, 3), 2);
        Due.is("asked", x.lock(0, 0, 1), 2);
        x.tick(2);
        Due.is("then for the map", x.lock(0, 128, 3), 2);
        Due.is("two tries", x.result(0, 3), 2);
        x.tick(2);
        Due.is("then for the inode", x.lock(0, 1, 3), 2);
        Due.is("three resources", x.result(0, 4), 3);
        Due.is("it ends in the sixth tick", x.tick(2), 1);
        Due.is("four tries", x.result(0, 3), 4);
        Due.is("six ticks", x.result(0, 2), 6);
        Due.is("the list was of three", x.result(0, 4), 3);
        Due.is("and is no more", x.lock(0, 128, 3), 0);
        Due.is("all is held: at once", x.call(0, WRITE, 1, 0, 7, 0), 1);
        Due.is("three tries", x.result(0, 3), 3);
        Due.is("no ticks", x.result(0, 2), 0);
        Due.done(x, 375 - 1, 0, ROOM);
        Due.is("the first map is held: nine tries", x.result(0, 3), 9);
        Due.is("two ticks for each other map", x.result(0, 2), 14);
        Due.is("eight maps", x.result(0, 4), 8);
    }

    /** More than 16 blocks: the call is undone and waits for the log. */
    static void fullLogs() {
        ClusterShelf x = new ClusterShelf(2);
        Due.done(x, 1, 0, MAKE, 0, 5, 1);
        for (int i = 0; i < 12; i++) {
            Due.done(x, i, 0, WRITE, 1, 16 * i, i);
        }
        // the root and its block, the map, the inode, the index and 12 blocks would be 17
        Due.is("the last write waited for a flush of 16", x.result(0, 2), 35);
        Due.is("one flush", x.node(0, 4), 1);
        Due.is("its writes", x.about(3), 35);
        ClusterShelf y = new ClusterShelf(2);
        Due.done(y, 1, 0, MAKE, 0, 5, 1);
        for (int i = 0; i < 11; i++) {
            Due.done(y, i, 0, WRITE, 1, 16 * i, i);
        }
        Due.is("the root, its block, the map, the inode, the index, 11 blocks", y.node(0, 2), 16);
        Due.is("no flush", y.node(0, 4), 0);
        Due.is("the cache", y.node(0, 5), 16);
        Due.is("it waits", y.call(0, WRITE, 1, 16 * 11, 11, 0), 0);
        Due.is("the log is being written", y.node(0, 2), 0);
        Due.is("35 writes", y.node(0, 3), 35);
        Due.is("the taken block has left the cache", y.node(0, 5), 16);
        Due.is("the inode is as it was", y.cached(0, 130, 2), 161);
        Due.is("tries: none pinned, the inode, the map", y.result(0, 3), 3);
        Due.is("not yet", y.tick(34), 0);
        Due.is("then", y.tick(1), 1);
        Due.is("a fourth try", y.result(0, 3), 4);
        Due.is("map, inode, index, block", y.node(0, 2), 4);
        Due.is("its size", y.cached(0, 130, 2), 177);
    }

    /** What is given back needs no place in the log. */
    static void givenBack() {
        ClusterShelf x = new ClusterShelf(2);
        Due.done(x, 1, 0, MAKE, 0, 5, 1);
        Due.done(x, 0, 0, SYNC);
        for (int i = 0; i < 13; i++) {
            Due.done(x, i, 0, WRITE, 1, 16 * i, i);
        }
        Due.is("a map, an inode, its index and 13 blocks", x.node(0, 2), 16);
        Due.is("the root's block is one more, but 14 go", x.call(0, REMOVE, 0, 5, 0, 0), 1);
        Due.is("the map, the inode and the root's block", x.node(0, 2), 3);
        Due.is("and the root are in the cache", x.node(0, 5), 4);
        Due.is("one flush", x.node(0, 4), 1);
        Due.is("it isn't safe", x.history(x.about(4) - 1, 9), 1);
        Due.done(x, 0, 0, SYNC);
        Due.is("three blocks, nine writes", x.result(0, 2), 9);
        Due.is("what was written is safe", x.history(2, 9), 2);
        Due.is("no block but the root's is used", x.word(128, 1), 1);
        Due.is("looking", x.about(9), 0);
    }

    /** Just 16 blocks, when the one that is given back isn't counted. */
    static void givenBackAtTheEdge() {
        ClusterShelf x = new ClusterShelf(2);
        Due.done(x, 1, 0, MAKE, 0, 5, 1);
        Due.done(x, 2, 0, MAKE, 0, 6, 1);
        Due.done(x, 0, 0, SYNC);
        Due.done(x, 9, 0, WRITE, 1, 0, 9);
        for (int i = 0; i < 11; i++) {
            Due.done(x, i, 0, WRITE, 2, 16 * i, i);
        }
        Due.is("the map, two inodes, an index, 12 blocks", x.node(0, 2), 16);
        Due.is("the root's block for the file's", x.call(0, REMOVE, 0, 5, 0, 0), 1);
        Due.is("still 16", x.node(0, 2), 16);
        Due.is("a new file in its place", x.call(0, MAKE, 0, 7, 1, 0), 1);
        Due.is("its inode, the map and the root's block were in the log", x.node(0, 2), 16);
        Due.is("a block more must wait", x.call(0, WRITE, 1, 0, 8, 0), 0);
        Due.is("a flush is under way", x.node(0, 3), 35);
    }

    /** What is put where: blocks and inodes of the own group first, then of the next ones. */
    static void groups() {
        ClusterShelf x = new ClusterShelf(2);
        for (int i = 1; i < 16; i++) {
            Due.done(x, i, 0, MAKE, 0, i, i == 15 ? 2 : 1);
        }
        Due.done(x, 16, 0, MAKE, 0, 16, 2);
        Due.done(x, 17, 1, MAKE, 16, 1, 1);
        Due.done(x, 18, 1, MAKE, 15, 1, 1);
        Due.done(x, 9, 1, WRITE, 17, 0, 9);
        Due.done(x, 0, 1, SYNC);
        Due.is("inode 17 is in group 1", x.word(129 + 64 + 1, 0), 1);
        Due.is("inode 16's first block is the group's first", x.word(129 + 64, 3), 128 + 64 + 17);
        Due.is("inode 15's is in group 0", x.word(129 + 15, 3), 128 + 17 + 2);
        Due.is("inode 17's is the next one", x.word(129 + 65, 3), 128 + 64 + 18);
        Due.is("map 0", x.word(128, 0), 0xFFFF);
        Due.is("map 0, blocks: two of the root and one", x.word(128, 1), 7);
        Due.is("map 1", x.word(192, 0), 7);
        Due.is("map 1, blocks", x.word(192, 1), 3);
        Due.is("looking", x.about(9), 0);
        Due.is("inodes", x.about(8), 19);
        Due.is("blocks", x.about(7), 5);
    }

    public static void main(String[] args) {
        directories();
        entries();
        files();
        cuts();
        reads();
        refused();
        tries();
        fullLogs();
        givenBack();
        givenBackAtTheEdge();
        groups();
        Due.end("calls");
    }
}
