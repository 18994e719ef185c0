/** Full directories, no inodes or blocks left: faults -7, and what is undone then. Compared with PlainShelf, too. */
public final class CrowdedTest {
    static final int MAKE = 1, REMOVE = 2, LINK = 3, RENAME = 4, WRITE = 6, CUT = 7, STAT = 9, SYNC = 10, APPEND = 12,
            ROOM = 14;

    final ClusterShelf x;
    final PlainShelf p;

    CrowdedTest(int nodes) {
        x = new ClusterShelf(nodes);
        p = new PlainShelf(nodes);
    }

    int run(int node, int kind, int a, int b, int c, int d) {
        SchedulesTest.where = "crowded, at time " + x.about(0);
        SchedulesTest.same("call(" + kind + ")", () -> x.call(node, kind, a, b, c, d),
                () -> p.call(node, kind, a, b, c, d));
        for (int i = 0; i < 300 && p.result(node, 0) == 1; i++) {
            SchedulesTest.same("tick(1)", () -> x.tick(1), () -> p.tick(1));
            SchedulesTest.same("cache", () -> x.node(node, 5), () -> p.node(node, 5));
            SchedulesTest.same("log", () -> x.node(node, 2), () -> p.node(node, 2));
            SchedulesTest.same("tries", () -> x.result(node, 3), () -> p.result(node, 3));
        }
        SchedulesTest.same("result", () -> x.result(node, 1), () -> p.result(node, 1));
        return x.result(node, 1);
    }

    void compare() {
        SchedulesTest.compareLightly(x, p);
        SchedulesTest.compareDeeply(x, p);
        SchedulesTest.compareWords(x, p);
    }

    static void fullDirectory() {
        CrowdedTest t = new CrowdedTest(2);
        Due.is("a file", t.run(0, MAKE, 0, 1, 1, 0), 1);
        Due.is("a directory", t.run(0, MAKE, 0, 2, 2, 0), 2);
        for (int i = 0; i < 192; i++) {
            Due.is("its links", t.run(i % 60 == 59 ? 1 : 0, LINK, 2, 1000 + i, 1, 0), i + 2);
        }
        Due.is("no room for a link", t.run(0, LINK, 2, 5, 1, 0), -7);
        Due.is("no room for a file", t.run(1, MAKE, 2, 5, 1, 0), -7);
        Due.is("nor from another directory", t.run(0, RENAME, 0, 1, 2, 5), -7);
        Due.is("nor to append, ahead of no file", t.run(1, APPEND, 2, 5, 0, 0), -7);
        Due.is("below the full size it is no file", t.run(0, APPEND, 0, 5, 0, 0), -4);
        t.compare();
        Due.is("its own entry is free", t.run(1, RENAME, 2, 1191, 2, 5), 0);
        Due.is("its size", t.run(0, STAT, 2, 2, 0, 0), 384);
        Due.is("its blocks and an index", t.run(0, STAT, 2, 3, 0, 0), 25);
        Due.is("the file's links", t.run(1, STAT, 1, 1, 0, 0), 193);
        Due.is("one goes", t.run(1, REMOVE, 2, 1150, 0, 0), 0);
        Due.is("another one comes", t.run(0, MAKE, 2, 6, 1, 0), 3);
        t.compare();
        for (int i = 0; i < 192; i++) {
            t.run(i % 50 == 49 ? 1 : 0, REMOVE, 2, i == 191 ? 5 : i == 150 ? 6 : 1000 + i, 0, 0);
        }
        Due.is("the directory is empty", t.run(1, REMOVE, 0, 2, 0, 0), 0);
        Due.is("all its blocks are free", t.run(0, ROOM, 0, 0, 0, 0), 375);
        t.run(0, SYNC, 0, 0, 0, 0);
        t.run(1, SYNC, 0, 0, 0, 0);
        t.compare();
        Due.is("on the disk, too", t.x.about(7), 1);
    }

    static void allInodes() {
        CrowdedTest t = new CrowdedTest(3);
        for (int k = 1; k < 128; k++) {
            Due.is("the next inode", t.run(k / 32 % 3, MAKE, 0, k, k % 9 == 0 ? 2 : 1, 0), k);
        }
        Due.is("no inode is left", t.run(0, MAKE, 0, 128, 1, 0), -7);
        Due.is("also of another group", t.run(1, MAKE, 63, 1, 1, 0), -7);
        t.compare();
        Due.is("one goes", t.run(2, REMOVE, 0, 40, 0, 0), 0);
        Due.is("and is taken from the last group on", t.run(1, MAKE, 126, 1, 1, 0), 40);
        t.run(1, SYNC, 0, 0, 0, 0);
        Due.is("inodes on the disk", t.x.about(8), 128);
        t.compare();
    }

    static void allBlocks() {
        CrowdedTest t = new CrowdedTest(4);
        for (int k = 1; k <= 15; k++) {
            Due.is("a file", t.run(0, MAKE, 0, k, 1, 0), k);
        }
        // the root has two blocks; a whole file has 24 and an index
        int used = 2;
        for (int i = 0; used < 376; i++) {
            int file = 1 + i / 24;
            Due.is("a block of file " + file, t.run(i / 48 % 4, WRITE, file, i % 24 * 16, 9, 0), 9);
            used += i % 24 == 8 ? 2 : 1;
        }
        Due.is("no block is free", t.run(1, ROOM, 0, 0, 0, 0), 0);
        Due.is("none for a file", t.run(2, WRITE, 15, 383, 1, 0), -7);
        Due.is("it grows without", t.run(2, CUT, 15, 368, 0, 0), 353);
        Due.is("none to append", t.run(3, APPEND, 15, 1, 0, 0), -7);
        Due.is("a directory without a block", t.run(0, MAKE, 0, 16, 2, 0), 16);
        Due.is("can have no entry", t.run(0, MAKE, 16, 1, 1, 0), -7);
        Due.is("nor a link", t.run(1, LINK, 16, 1, 1, 0), -7);
        Due.is("nor one from elsewhere", t.run(2, RENAME, 0, 1, 16, 1), -7);
        Due.is("nor can the root grow", t.run(3, MAKE, 0, 17, 1, 0), -7);
        t.compare();
        Due.is("a cut gives two back", t.run(3, CUT, 1, 352, 0, 0), 369);
        Due.is("two are free", t.run(0, ROOM, 0, 0, 0, 0), 2);
        Due.is("a block is taken", t.run(2, APPEND, 15, 1, 0, 0), 368);
        Due.is("another one", t.run(1, MAKE, 16, 1, 1, 0), 17);
        Due.is("no more", t.run(2, WRITE, 17, 0, 1, 0), -7);
        Due.is("a whole file goes", t.run(1, REMOVE, 0, 2, 0, 0), 0);
        Due.is("25 are free", t.run(0, ROOM, 0, 0, 0, 0), 25);
        for (int n = 0; n < 4; n++) {
            t.run(n, SYNC, 0, 0, 0, 0);
        }
        Due.is("blocks on the disk", t.x.about(7), 351);
        t.compare();
    }

    public static void main(String[] args) {
        fullDirectory();
        allInodes();
        allBlocks();
        Due.wrong += SchedulesTest.wrong;
        Due.end("crowded");
    }
}
