/**
 * The sentences of sections 1 to 3 that name a boundary case: what is empty or full, the least and the greatest,
 * the first and the last, what wraps around. No object gets more than the 512 calls that the document promises,
 * but for looking at the whole of it.
 */
public final class EdgesTest {
    static final int LOOK = 0, MAKE = 1, REMOVE = 2, LINK = 3, RENAME = 4, READ = 5, WRITE = 6, CUT = 7, ENTRY = 8,
            STAT = 9, SYNC = 10, ADD = 11, APPEND = 12, COUNT = 13, ROOM = 14;
    static final int MIN = Integer.MIN_VALUE;
    static final int MAX = Integer.MAX_VALUE;
    static final int FULL = 384;

    /** A call that is run to its end without a look at what it gives. */
    static void go(ClusterShelf x, int node, int kind, int... given) {
        int[] g = java.util.Arrays.copyOf(given, 4);
        if (x.call(node, kind, g[0], g[1], g[2], g[3]) == 0) {
            x.tick(100);
        }
    }

    static void words(ClusterShelf x, int block, int... due) {
        for (int i = 0; i < due.length; i++) {
            Due.is("word(" + block + ", " + i + ")", x.word(block, i), due[i]);
        }
    }

    static void zero(ClusterShelf x, int first, int last) {
        for (int b = first; b <= last; b++) {
            for (int i = 0; i < 16; i++) {
                Due.is("word(" + b + ", " + i + ")", x.word(b, i), 0);
            }
        }
    }

    /** Node i's JOURNAL are blocks 1 + 24 i and the next 23: HEAD, TABLE, 16 IMAGES (six stay 0). */
    static void journals() {
        for (int node = 0; node < 4; node++) {
            ClusterShelf x = new ClusterShelf(4);
            go(x, node, MAKE, 0, 5, 1);
            for (int i = 0; i <= 10; i++) {
                go(x, node, WRITE, 1, 16 * i, 70 + i);
            }
            Due.is("a log of 16", x.node(node, 2), 16);
            Due.is("no flush yet", x.node(node, 4), 0);
            go(x, node, SYNC);
            int head = 1 + 24 * node;
            words(x, head, 1, 16, 0, 0, 0, 0, 0, 0, 0, 0, 0, 0, 0, 0, 0, 0);
            words(x, head + 1, 128, 129, 130, 145, 146, 147, 148, 149, 150, 151, 152, 153, 154, 155, 156, 157);
            words(x, head + 2, 3, 8191, 0);
            words(x, head + 3, 2, 1, 2, 145, 0);
            words(x, head + 4, 1, 1, 161, 146, 147, 148, 149, 150, 151, 152, 153, 154, 0);
            words(x, head + 5, 5, 1, 0);
            words(x, head + 13, 77, 0);
            words(x, head + 14, 155, 156, 157, 0);
            words(x, head + 17, 80, 0);
            zero(x, head + 18, head + 23);
            zero(x, 1, head - 1);
            zero(x, head + 24, 127);
            words(x, 157, 80, 0);
        }
    }

    /** A map has in words 1 and 2 a bit j (j - 32) for each data block j; a full group's blocks come of the next. */
    static void aGroupThatIsFull() {
        ClusterShelf x = new ClusterShelf(2);
        go(x, 0, MAKE, 0, 5, 1);
        go(x, 0, MAKE, 0, 6, 1);
        for (int i = 0; i < 24; i++) {
            go(x, 0, WRITE, 1, 16 * i, 1);
        }
        for (int i = 0; i < 5; i++) {
            go(x, 0, WRITE, 2, 16 * i, 1);
        }
        go(x, 0, SYNC);
        words(x, 128, 7, 0x7FFFFFFF, 0);
        go(x, 0, WRITE, 2, 16 * 5, 1);
        go(x, 0, SYNC);
        words(x, 128, 7, -1, 0);
        for (int i = 6; i < 19; i++) {
            go(x, 0, WRITE, 2, 16 * i, 1);
        }
        go(x, 0, SYNC);
        words(x, 128, 7, -1, 0x3FFF);
        Due.is("the other maps aren't met", x.lock(0, 129, 0), 0);
        go(x, 0, WRITE, 2, 16 * 19, 1);
        go(x, 0, SYNC);
        words(x, 128, 7, -1, 0x7FFF, 0, 0, 0, 0, 0, 0, 0, 0, 0, 0, 0, 0, 0);
        words(x, 192, 0, 0);
        Due.is("blocks that are used", x.about(7), 47);
        go(x, 0, WRITE, 2, 16 * 20, 1);
        Due.is("the next group's map is met", x.lock(0, 129, 0), 2);
        go(x, 0, SYNC);
        words(x, 192, 0, 1, 0);
        Due.is("its first block", x.word(179, 20 - 8), 128 + 64 + 17);
        Due.is("a word of it", x.word(128 + 64 + 17, 0), 1);
        Due.is("blocks that are used", x.about(7), 48);
        Due.done(x, 376 - 48, 0, ROOM);
        go(x, 0, CUT, 1, 383);
        go(x, 0, CUT, 1, 368);
        go(x, 0, WRITE, 2, 16 * 21, 1);
        go(x, 0, SYNC);
        Due.is("the least block of the own group", x.word(179, 21 - 8), 128 + 17 + 25);
        Due.is("looking", x.about(9), 0);
    }

    /** Inodes, blocks and indexes are taken of, and given back to, the map of their own group. */
    static void theOwnGroup() {
        ClusterShelf x = new ClusterShelf(2);
        for (int k = 1; k <= 17; k++) {
            Due.done(x, k, 0, MAKE, 0, k, 1);
        }
        go(x, 0, WRITE, 16, 128, 1);
        go(x, 0, WRITE, 15, 128, 1);
        go(x, 0, SYNC);
        // the root's 17 entries have three blocks
        words(x, 128, 0xFFFF, 31, 0);
        words(x, 192, 3, 3, 0);
        Due.is("an index of group 0", x.word(144, 11), 148);
        Due.is("an index of group 1", x.word(193, 11), 209);
        words(x, 209, 210, 0);
        go(x, 0, REMOVE, 0, 16);
        go(x, 0, SYNC);
        words(x, 128, 0xFFFF, 31, 0);
        words(x, 192, 2, 0, 0);
        go(x, 0, REMOVE, 0, 15);
        go(x, 0, SYNC);
        words(x, 128, 0x7FFF, 7, 0);
        words(x, 192, 2, 0, 0);
        Due.done(x, 15, 0, MAKE, 0, 15, 1);
        Due.done(x, 16, 0, MAKE, 0, 16, 1);
        Due.is("looking", x.about(9), 0);
    }

    /** These inodes are made in the root: 125 is a directory, all others are files. */
    static ClusterShelf allInodes(int first, int last) {
        ClusterShelf x = new ClusterShelf(2);
        for (int k = first; k <= last; k++) {
            go(x, 0, MAKE, 0, 1000 + k, k == 125 ? 2 : 1);
        }
        return x;
    }

    /** No inode is left: -7; behind group 7 comes group 0. */
    static void noInodeLeft() {
        ClusterShelf x = allInodes(1, 126);
        Due.done(x, 127, 0, MAKE, 0, MIN, 1);
        Due.fault(x, -7, 0, MAKE, 0, MAX, 1);
        Due.is("it met all maps", x.lock(0, 135, 0), 2);
        Due.fault(x, -7, 0, MAKE, 125, 1, 2);
        Due.is("a fault changes nothing", x.history(x.about(4) - 1, 9), 0);
        Due.fault(x, -6, 0, MAKE, 0, MIN, 1);
        go(x, 0, SYNC);
        Due.is("inodes that are used", x.about(8), 128);
        words(x, 592, 1, 1, 0, 0);
        for (int g = 0; g < 8; g++) {
            words(x, 128 + 64 * g, 0xFFFF);
        }
        Due.done(x, 127, 1, LOOK, 0, MIN);
        Due.done(x, 0, 0, REMOVE, 0, 1005);
        Due.done(x, 0, 0, REMOVE, 0, 1040);
        Due.done(x, 5, 0, MAKE, 125, MIN, 1);
        Due.done(x, 40, 0, MAKE, 125, -1, 1);
        Due.fault(x, -7, 0, MAKE, 125, 1, 1);
        Due.is("looking", x.about(9), 0);
    }

    /** Behind group 7 comes group 0 for data blocks, too. */
    static void behindTheLastGroup() {
        ClusterShelf x = allInodes(1, 127);
        for (int i = 0; i < 24; i++) {
            go(x, 0, WRITE, 127, 16 * i, i);
        }
        for (int i = 0; i < 21; i++) {
            go(x, 0, WRITE, 126, 16 * i, i);
        }
        go(x, 0, SYNC);
        words(x, 576, 0xFFFF, -1, 0x7FFF, 0);
        words(x, 592, 1, 1, 369, 593, 594, 595, 596, 597, 598, 599, 600, 601);
        Due.is("the last block of all", x.word(626, 20 - 8), 639);
        words(x, 639, 20, 0);
        go(x, 0, WRITE, 126, 16 * 21, 21);
        go(x, 0, SYNC);
        // the root has 127 entries: 16 blocks and an index of group 0
        words(x, 128, 0xFFFF, 0x3FFFF, 0);
        Due.is("the next block", x.word(626, 21 - 8), 145 + 17);
        words(x, 162, 21, 0);
        Due.is("blocks that are used", x.about(7), 17 + 47 + 1);
        Due.is("looking", x.about(9), 0);
    }

    /** A directory without entries; one that had an entry. */
    static void anEmptyDirectory() {
        ClusterShelf x = new ClusterShelf(2);
        Due.done(x, 0, 1, COUNT, 0);
        Due.fault(x, -3, 1, ENTRY, 0, 0);
        Due.fault(x, -3, 1, ENTRY, 0, 191);
        Due.fault(x, -3, 1, LOOK, 0, 1);
        Due.fault(x, -3, 1, REMOVE, 0, 1);
        Due.fault(x, -3, 1, RENAME, 0, 1, 0, 1);
        Due.fault(x, -3, 1, RENAME, 0, 1, 0, 2);
        Due.done(x, 2, 1, STAT, 0, 0);
        Due.done(x, 1, 1, STAT, 0, 1);
        Due.done(x, 0, 1, STAT, 0, 2);
        Due.done(x, 0, 1, STAT, 0, 3);
        Due.is("its inode is all that was read", x.node(1, 5), 1);
        Due.is("nothing was changed", x.node(1, 2), 0);
        Due.done(x, 1, 1, MAKE, 0, 5, 2);
        Due.done(x, 0, 1, REMOVE, 0, 5);
        Due.done(x, 0, 1, COUNT, 0);
        Due.done(x, 2, 1, STAT, 0, 2);
        Due.done(x, 1, 1, STAT, 0, 3);
        Due.fault(x, -3, 1, ENTRY, 0, 0);
        Due.done(x, 1, 1, MAKE, 0, 6, 2);
        Due.done(x, 2, 1, STAT, 0, 2);
        Due.done(x, 2, 1, MAKE, 1, 7, 1);
        Due.fault(x, -8, 1, REMOVE, 0, 6);
        Due.done(x, 0, 1, REMOVE, 1, 7);
        Due.done(x, 374, 1, ROOM);
        Due.done(x, 0, 1, REMOVE, 0, 6);
        Due.done(x, 375, 1, ROOM);
        Due.fault(x, -5, 1, STAT, 1, 0);
        Due.is("looking", x.about(9), 0);
    }

    /** A directory whose size is 384: 192 entries, in 24 blocks and an index. */
    static void aFullDirectory() {
        ClusterShelf x = new ClusterShelf(2);
        go(x, 0, MAKE, 0, 5, 1);
        go(x, 0, MAKE, 0, 6, 2);
        for (int i = 0; i < 191; i++) {
            go(x, 0, LINK, 2, i - 95 == 0 ? 999 : i - 95, 1);
        }
        Due.done(x, 382, 0, STAT, 2, 2);
        Due.fault(x, -3, 0, ENTRY, 2, 191);
        Due.done(x, 193, 0, LINK, 2, MAX, 1);
        Due.done(x, FULL, 0, STAT, 2, 2);
        Due.done(x, 25, 0, STAT, 2, 3);
        Due.done(x, 192, 0, COUNT, 2);
        Due.done(x, MAX, 0, ENTRY, 2, 191);
        Due.done(x, 999, 0, ENTRY, 2, 95);
        Due.done(x, -95, 0, ENTRY, 2, 0);
        Due.done(x, 1, 0, LOOK, 2, MAX);
        Due.fault(x, -3, 0, LOOK, 2, MIN);
        Due.fault(x, -7, 0, LINK, 2, MIN, 1);
        Due.fault(x, -6, 0, LINK, 2, MAX, 1);
        Due.fault(x, -7, 0, MAKE, 2, MIN, 1);
        Due.fault(x, -7, 0, RENAME, 0, 5, 2, MIN);
        Due.is("a fault changes nothing", x.history(x.about(4) - 1, 9), 0);
        Due.done(x, 193, 0, STAT, 1, 1);
        Due.done(x, 0, 0, RENAME, 2, MAX, 2, MIN);
        Due.done(x, MIN, 0, ENTRY, 2, 191);
        Due.done(x, 0, 0, REMOVE, 2, 999);
        Due.done(x, 191, 0, COUNT, 2);
        Due.fault(x, -3, 0, ENTRY, 2, 191);
        Due.done(x, 1, 0, ENTRY, 2, 95);
        Due.done(x, 0, 0, RENAME, 0, 5, 2, 998);
        Due.done(x, 998, 0, ENTRY, 2, 95);
        Due.done(x, FULL, 0, STAT, 2, 2);
        Due.fault(x, -8, 0, REMOVE, 0, 6);
        Due.done(x, 1, 0, COUNT, 0);
        go(x, 0, SYNC);
        Due.is("looking", x.about(9), 0);
        Due.is("blocks that are used", x.about(7), 26);
    }

    /** APPEND meets -7 (the size is 384) ahead of what WRITE meets, -4: also of a directory, whose size never shrinks. */
    static void appendToADirectory() {
        ClusterShelf x = new ClusterShelf(2);
        go(x, 0, MAKE, 0, 5, 1);
        go(x, 0, MAKE, 0, 6, 2);
        Due.fault(x, -4, 0, APPEND, 0, 7);
        Due.fault(x, -4, 0, APPEND, 2, 7);
        Due.fault(x, -4, 0, APPEND, 3, 7);
        for (int i = 0; i < 191; i++) {
            go(x, 0, LINK, 2, 100 + i, 1);
        }
        Due.done(x, 382, 0, STAT, 2, 2);
        Due.fault(x, -4, 0, APPEND, 2, 7);
        go(x, 0, LINK, 2, 291, 1);
        Due.done(x, FULL, 0, STAT, 2, 2);
        Due.fault(x, -7, 0, APPEND, 2, 7);
        Due.fault(x, -7, 0, APPEND, 2, 0);
        Due.is("a fault", x.history(x.about(4) - 1, 6), 3);
        Due.is("that is this one", x.history(x.about(4) - 1, 7), -7);
        Due.is("a fault changes nothing", x.history(x.about(4) - 1, 9), 0);
        Due.fault(x, -4, 0, WRITE, 2, 383, 7);
        Due.fault(x, -4, 0, ADD, 2, 383, 7);
        Due.fault(x, -4, 0, READ, 2, 383);
        Due.fault(x, -4, 0, CUT, 2, FULL);
        Due.done(x, 0, 0, REMOVE, 2, 291);
        Due.done(x, 0, 0, REMOVE, 2, 100);
        Due.done(x, 190, 0, COUNT, 2);
        Due.fault(x, -7, 0, APPEND, 2, 7);
        Due.fault(x, -4, 0, APPEND, 0, 7);
        Due.fault(x, -4, 0, APPEND, 3, 7);
        Due.fault(x, -7, 1, APPEND, 2, 7);
        Due.is("the directory alone is met", x.result(1, 4), 1);
        Due.is("as WRITE meets it", x.lock(1, 2, 0), 2);
        Due.is("and its inode alone is read", x.node(1, 5), 1);
        Due.is("two tries", x.result(1, 3), 2);
        Due.done(x, FULL, 1, STAT, 2, 2);
        Due.done(x, 190, 0, COUNT, 2);
        go(x, 0, SYNC);
        Due.is("looking", x.about(9), 0);
    }

    /** The index of a directory comes with its 65th entry. */
    static void anIndexOfADirectory() {
        ClusterShelf x = new ClusterShelf(2);
        go(x, 0, MAKE, 0, 1, 1);
        for (int i = 2; i <= 64; i++) {
            go(x, 0, LINK, 0, i, 1);
        }
        Due.done(x, 128, 0, STAT, 0, 2);
        Due.done(x, 8, 0, STAT, 0, 3);
        Due.done(x, 65, 0, LINK, 0, 65, 1);
        Due.done(x, 130, 0, STAT, 0, 2);
        Due.done(x, 10, 0, STAT, 0, 3);
        Due.done(x, 65, 0, ENTRY, 0, 64);
        go(x, 0, SYNC);
        Due.is("the index was taken first", x.word(129, 11), 153);
        words(x, 153, 154, 0);
        words(x, 154, 65, 1, 0);
    }

    /** A file of size 0: no block, nothing to read, the first append's place is 0. */
    static void aFileOfSize0() {
        ClusterShelf x = new ClusterShelf(2);
        go(x, 0, MAKE, 0, 5, 1);
        Due.done(x, 0, 0, STAT, 1, 2);
        Due.done(x, 0, 0, STAT, 1, 3);
        Due.fault(x, -10, 0, READ, 1, 0);
        Due.fault(x, -10, 0, READ, 1, 383);
        Due.done(x, 0, 0, CUT, 1, 0);
        Due.done(x, 0, 0, STAT, 1, 3);
        Due.done(x, 0, 0, APPEND, 1, MIN);
        Due.done(x, 1, 0, STAT, 1, 2);
        Due.done(x, MIN, 0, READ, 1, 0);
        Due.fault(x, -10, 0, READ, 1, 1);
        Due.done(x, 1, 0, CUT, 1, 0);
        Due.done(x, 0, 0, STAT, 1, 3);
        Due.done(x, 0, 0, CUT, 1, 1);
        Due.done(x, 0, 0, READ, 1, 0);
        Due.done(x, 0, 0, STAT, 1, 3);
        Due.done(x, 1, 0, APPEND, 1, 8);
        Due.done(x, 0, 0, READ, 1, 0);
        Due.done(x, 8, 0, READ, 1, 1);
        Due.done(x, 0, 0, REMOVE, 0, 5);
        Due.done(x, 375, 0, ROOM);
    }

    /** A file of 384 words, with and without blocks. */
    static void aFileOf384Words() {
        ClusterShelf x = new ClusterShelf(2);
        go(x, 0, MAKE, 0, 5, 1);
        Due.done(x, 7, 0, WRITE, 1, 382, 7);
        Due.done(x, 383, 0, STAT, 1, 2);
        Due.done(x, 383, 0, APPEND, 1, 9);
        Due.done(x, FULL, 0, STAT, 1, 2);
        Due.fault(x, -7, 0, APPEND, 1, 9);
        Due.is("a fault changes nothing", x.history(x.about(4) - 1, 9), 0);
        Due.done(x, 9, 0, READ, 1, 383);
        Due.done(x, 7, 0, READ, 1, 382);
        Due.done(x, 0, 0, READ, 1, 381);
        Due.done(x, 2, 0, STAT, 1, 3);
        Due.done(x, 10, 0, ADD, 1, 383, 1);
        Due.done(x, 5, 0, WRITE, 1, 383, 5);
        Due.done(x, FULL, 0, STAT, 1, 2);
        Due.done(x, FULL, 0, CUT, 1, FULL);
        Due.done(x, 5, 0, READ, 1, 383);
        Due.done(x, FULL, 0, CUT, 1, 383);
        Due.fault(x, -10, 0, READ, 1, 383);
        Due.done(x, 383, 0, CUT, 1, FULL);
        Due.done(x, 0, 0, READ, 1, 383);
        Due.done(x, 7, 0, READ, 1, 382);
        for (int i = 0; i < 24; i++) {
            go(x, 0, WRITE, 1, 16 * i, i);
        }
        Due.done(x, 25, 0, STAT, 1, 3);
        Due.done(x, FULL, 0, STAT, 1, 2);
        Due.fault(x, -7, 0, APPEND, 1, 9);
        Due.done(x, 376 - 26, 0, ROOM);
        Due.done(x, FULL, 0, CUT, 1, 0);
        Due.done(x, 375, 0, ROOM);
        Due.done(x, 0, 0, CUT, 1, FULL);
        Due.fault(x, -7, 0, APPEND, 1, 9);
        Due.done(x, 0, 0, READ, 1, 383);
        Due.done(x, 0, 0, STAT, 1, 3);
        go(x, 0, SYNC);
        Due.is("looking", x.about(9), 0);
    }

    /** An index comes with word 128, ahead of its block, and goes when the size is 128 or less. */
    static void anIndexThatComesAndGoes() {
        ClusterShelf x = new ClusterShelf(2);
        go(x, 0, MAKE, 0, 5, 1);
        Due.done(x, 4, 0, WRITE, 1, 127, 4);
        Due.done(x, 1, 0, STAT, 1, 3);
        Due.done(x, 128, 0, APPEND, 1, 5);
        Due.done(x, 3, 0, STAT, 1, 3);
        go(x, 0, SYNC);
        words(x, 130, 1, 1, 129, 0, 0, 0, 0, 0, 0, 0, 146, 147, 0);
        words(x, 147, 148, 0);
        words(x, 148, 5, 0);
        Due.done(x, 6, 0, WRITE, 1, 143, 6);
        Due.done(x, 3, 0, STAT, 1, 3);
        Due.done(x, 7, 0, WRITE, 1, 144, 7);
        Due.done(x, 4, 0, STAT, 1, 3);
        Due.done(x, 145, 0, CUT, 1, 144);
        Due.done(x, 3, 0, STAT, 1, 3);
        Due.done(x, 144, 0, CUT, 1, 129);
        Due.done(x, 3, 0, STAT, 1, 3);
        go(x, 0, SYNC);
        words(x, 147, 148, 0);
        words(x, 148, 5, 0, 0, 0, 0, 0, 0, 0, 0, 0, 0, 0, 0, 0, 0, 0);
        Due.done(x, 129, 0, CUT, 1, 128);
        Due.done(x, 1, 0, STAT, 1, 3);
        go(x, 0, SYNC);
        words(x, 130, 1, 1, 128, 0, 0, 0, 0, 0, 0, 0, 146, 0, 0);
        words(x, 128, 3, 3, 0);
        Due.done(x, 4, 0, READ, 1, 127);
        Due.done(x, 8, 0, WRITE, 1, 383, 8);
        Due.done(x, FULL, 0, CUT, 1, 368);
        Due.is("the index stays without a block", Due.run(x, 0, STAT, 1, 3), 2);
        Due.done(x, 368, 0, CUT, 1, 129);
        Due.is("also for a word that has none", Due.run(x, 0, STAT, 1, 3), 2);
        Due.done(x, 129, 0, CUT, 1, 127);
        Due.is("it is gone", Due.run(x, 0, STAT, 1, 3), 1);
        Due.fault(x, -10, 0, READ, 1, 127);
        Due.done(x, 127, 0, CUT, 1, 128);
        Due.done(x, 0, 0, READ, 1, 127);
        Due.done(x, 374, 0, ROOM);
        go(x, 0, SYNC);
        Due.is("looking", x.about(9), 0);
    }

    /** To which size a file of 384 words is cut; how many blocks it has then; the blocks that node 1 has read. */
    static void cutsOfAFullFile() {
        int[][] due = {{384, 25, 1}, {383, 25, 3}, {370, 25, 3}, {369, 25, 3}, {368, 24, 3}, {367, 24, 4},
            {145, 11, 4}, {144, 10, 3}, {143, 10, 4}, {129, 10, 4}, {128, 8, 2}, {127, 8, 3}, {113, 8, 3},
            {112, 7, 2}, {111, 7, 3}, {17, 2, 3}, {16, 1, 2}, {15, 1, 3}, {1, 1, 3}, {0, 0, 2}};
        for (int[] d : due) {
            ClusterShelf x = new ClusterShelf(2);
            go(x, 0, MAKE, 0, 5, 1);
            for (int i = 0; i < 24; i++) {
                go(x, 0, WRITE, 1, 16 * i + 15, i + 1);
            }
            go(x, 0, SYNC);
            String at = " when it is cut to " + d[0];
            Due.is("what it had" + at, Due.run(x, 1, CUT, 1, d[0]), FULL);
            Due.is("blocks that were read, and the map" + at, x.node(1, 5), d[2]);
            Due.is("its size" + at, Due.run(x, 1, STAT, 1, 2), d[0]);
            Due.is("its blocks" + at, Due.run(x, 1, STAT, 1, 3), d[1]);
            Due.is("free blocks" + at, Due.run(x, 1, ROOM), 375 - d[1]);
            Due.done(x, d[0], 1, CUT, 1, FULL);
            for (int i = 0; i < 24; i++) {
                int w = 16 * i + 15;
                Due.is("word " + w + at, Due.run(x, 1, READ, 1, w), w < d[0] ? i + 1 : 0);
            }
            go(x, 1, SYNC);
            Due.is("looking" + at, x.about(9), 0);
        }
    }

    /** Words of the last block from size up to the block's end are 0, if there is such a block. */
    static void tailsOfCuts() {
        int[][] due = {{1, 2}, {8, 2}, {15, 2}, {16, 1}, {17, 1}, {31, 1}, {32, 1}};
        for (int[] d : due) {
            ClusterShelf x = new ClusterShelf(2);
            go(x, 0, MAKE, 0, 5, 1);
            for (int i = 0; i < 16; i++) {
                go(x, 0, WRITE, 1, i, i + 1);
            }
            go(x, 0, CUT, 1, 40);
            go(x, 0, SYNC);
            String at = " when it is cut to " + d[0];
            Due.is("no block but the first goes or is read" + at, Due.run(x, 1, CUT, 1, d[0]), 40);
            Due.is("blocks that were changed" + at, x.node(1, 2), d[1]);
            Due.is("blocks that were read" + at, x.node(1, 5), d[1]);
            go(x, 1, CUT, 1, 40);
            for (int i = 0; i < 16; i++) {
                Due.is("word " + i + at, Due.run(x, 1, READ, 1, i), i < d[0] ? i + 1 : 0);
            }
        }
        // a size that grows sets the last block's words, too
        ClusterShelf x = new ClusterShelf(2);
        go(x, 0, MAKE, 0, 5, 1);
        go(x, 0, WRITE, 1, 3, 4);
        go(x, 0, SYNC);
        Due.done(x, 4, 0, CUT, 1, 9);
        Due.is("the inode and the block", x.node(0, 2), 2);
        go(x, 0, SYNC);
        Due.done(x, 9, 0, CUT, 1, 16);
        Due.is("the inode alone", x.node(0, 2), 1);
        Due.done(x, 4, 0, READ, 1, 3);
    }

    /** A word is set, also to what it was: its block is changed; the size is set only if it is more. */
    static void changed() {
        ClusterShelf x = new ClusterShelf(2);
        go(x, 0, MAKE, 0, 5, 1);
        go(x, 0, WRITE, 1, 3, 4);
        go(x, 0, SYNC);
        Due.done(x, 4, 0, WRITE, 1, 3, 4);
        Due.is("the block alone", x.node(0, 2), 1);
        Due.is("it changed something", x.history(x.about(4) - 1, 9), 1);
        Due.done(x, 0, 0, WRITE, 1, 2, 0);
        Due.done(x, 4, 0, ADD, 1, 3, 0);
        Due.is("the block alone", x.node(0, 2), 1);
        Due.done(x, 0, 0, WRITE, 1, 4, 0);
        Due.is("and the inode with its size", x.node(0, 2), 2);
        go(x, 0, SYNC);
        Due.done(x, 5, 0, CUT, 1, 5);
        Due.is("a cut to the size that it has", x.node(0, 2), 2);
        Due.is("changes the inode and the block", x.history(x.about(4) - 1, 9), 1);
        go(x, 0, SYNC);
        Due.done(x, 5, 0, CUT, 1, 0);
        Due.is("the inode and the map; the block is given back", x.node(0, 2), 2);
        Due.done(x, 0, 0, CUT, 1, 16);
        go(x, 0, SYNC);
        Due.done(x, 16, 0, CUT, 1, 16);
        Due.is("the inode alone", x.node(0, 2), 1);
    }

    /** A log of 16 blocks is as it is; one that would have more is flushed first. */
    static void fullLogs() {
        ClusterShelf x = new ClusterShelf(2);
        go(x, 0, MAKE, 0, 5, 1);
        for (int i = 0; i <= 10; i++) {
            go(x, 0, WRITE, 1, 16 * i, i);
        }
        Due.is("16 blocks", x.node(0, 2), 16);
        Due.is("a word of a block in the log", x.call(0, WRITE, 1, 175, 4, 0), 1);
        Due.is("a reading", x.call(0, READ, 1, 175, 0, 0), 1);
        Due.is("a fault", x.call(0, WRITE, 0, 175, 0, 0), 1);
        Due.is("a new entry, inode 2: of blocks in the log but one", x.call(0, MAKE, 0, 6, 1, 0), 0);
        x.tick(2);
        Due.is("it holds inode 2", x.lock(0, 2, 0), 2);
        Due.is("it waits for a flush", x.node(0, 3), 34);
        Due.is("nothing is in the log", x.node(0, 2), 0);
        Due.is("what it changed is undone", x.cached(0, 128, 0), 3);
        Due.is("the list stays", x.lock(0, 2, 3), 2);
        Due.is("four tries: an empty list, two, three", x.result(0, 3), 4);
        Due.is("not yet", x.tick(33), 0);
        Due.is("then", x.tick(1), 1);
        Due.is("a fifth try", x.result(0, 3), 5);
        Due.is("the root's block, its inode, the new one, the map", x.node(0, 2), 4);
        Due.is("the flush is over", x.node(0, 3), 0);
        Due.is("one flush", x.node(0, 4), 1);
    }

    /** SYNC: nothing to wait for; a flush; a log; a flush and a log. */
    static void syncs() {
        ClusterShelf x = new ClusterShelf(2);
        Due.is("nothing to wait for", x.call(0, SYNC, 0, 0, 0, 0), 1);
        Due.is("one try", x.result(0, 3), 1);
        Due.is("it gives 0", x.result(0, 1), 0);
        Due.is("it changed nothing", x.history(0, 9), 0);
        go(x, 0, MAKE, 0, 5, 1);
        x.call(1, LOOK, 0, 5, 0, 0);
        x.tick(2);
        Due.is("a flush, no log", x.node(0, 3), 10);
        Due.is("it waits", x.call(0, SYNC, 0, 0, 0, 0), 0);
        Due.is("not tried", x.result(0, 3), 0);
        Due.is("not yet", x.tick(9), 0);
        Due.is("with the flush", x.tick(1), 1);
        Due.is("ten ticks", x.result(0, 2), 10);
        Due.is("one flush", x.node(0, 4), 1);
        Due.is("at once", x.call(0, SYNC, 0, 0, 0, 0), 1);
        x.tick(10);
        Due.is("a word", x.call(0, WRITE, 1, 0, 4, 0), 1);
        x.call(1, READ, 1, 0, 0, 0);
        x.tick(2);
        Due.is("a flush of three", x.node(0, 3), 8);
        Due.is("a block more", x.call(0, APPEND, 1, 4, 0, 0), 0);
        Due.is("the inode is called back", x.lock(0, 1, 2), 1);
        x.tick(8);
        Due.is("the flush is over", x.node(0, 3), 0);
        x.tick(100);
        Due.is("it was appended", x.result(0, 1), 1);
        ClusterShelf y = new ClusterShelf(2);
        go(y, 0, MAKE, 0, 5, 1);
        go(y, 0, MAKE, 0, 6, 1);
        y.call(1, LOOK, 0, 5, 0, 0);
        y.tick(2);
        Due.is("a flush of five", y.node(0, 3), 12);
        Due.is("a log besides", y.call(0, WRITE, 1, 0, 4, 0), 1);
        Due.is("of map, inode, block", y.node(0, 2), 3);
        Due.is("it waits", y.call(0, SYNC, 0, 0, 0, 0), 0);
        Due.is("for the first", y.tick(12), 0);
        Due.is("for the second", y.node(0, 3), 9);
        Due.is("begun at once, but not yet at work", y.node(0, 6), 3);
        Due.is("the root waits for it, too", y.lock(0, 0, 0), 2);
        Due.is("not yet", y.tick(8), 0);
        Due.is("both are over", y.tick(1), 1);
        Due.is("21 ticks", y.result(0, 2), 21);
        Due.is("the root went down", y.lock(0, 0, 0), 1);
    }

    /** What each kind meets, with the mode: what node 1 holds when it has ended. */
    static void modes() {
        int[][] calls = {{LOOK, 0, 5}, {REMOVE, 0, 5}, {REMOVE, 0, 8}, {LINK, 0, 9, 1}, {RENAME, 0, 5, 0, 9},
            {RENAME, 0, 5, 2, 9}, {RENAME, 0, 5, 0, 5}, {READ, 1, 0}, {WRITE, 1, 0, 4}, {WRITE, 1, 16, 4}, {CUT, 1, 8},
            {CUT, 1, 0}, {ENTRY, 0, 0}, {STAT, 1, 0}, {SYNC}, {ADD, 1, 0, 1}, {APPEND, 1, 1}, {COUNT, 0},
            {MAKE, 0, 9, 1}, {MAKE, 2, 9, 2}, {RENAME, 0, 6, 2, 7}, {ROOM}};
        int[][] due = {{0, 1}, {0, 2, 1, 2}, {0, 2, 3, 2, 128, 2}, {0, 2, 1, 2}, {0, 2},
            {0, 2, 1, 1, 2, 2, 128, 2}, {0, 2}, {1, 1}, {1, 2}, {1, 2, 128, 2}, {1, 2},
            {1, 2, 128, 2}, {0, 1}, {1, 1}, {}, {1, 2}, {1, 2}, {0, 1},
            {0, 2, 4, 2, 128, 2}, {2, 2, 4, 2, 128, 2}, {0, 2, 2, 2}, {128, 1, 129, 1, 130, 1, 131, 1, 132, 1,
                133, 1, 134, 1, 135, 1}};
        for (int c = 0; c < calls.length; c++) {
            ClusterShelf x = new ClusterShelf(3);
            go(x, 0, MAKE, 0, 5, 1);
            go(x, 0, MAKE, 0, 6, 2);
            go(x, 0, LINK, 0, 7, 1);
            go(x, 0, WRITE, 1, 0, 1);
            go(x, 0, MAKE, 0, 8, 1);
            go(x, 0, SYNC);
            int[] call = calls[c];
            int[] given = java.util.Arrays.copyOfRange(call, 1, call.length);
            go(x, 1, call[0], given);
            String at = " of call " + call[0] + java.util.Arrays.toString(given);
            if (call[0] == RENAME && call[2] == 6) {
                // the entry's inode is e itself, which is held alone: -9
                Due.is("the fault" + at, x.result(1, 1), -9);
            } else {
                Due.is("the end" + at, x.result(1, 0), 2);
            }
            Due.is("the list" + at, x.result(1, 4), due[c].length / 2);
            for (int r = 0; r < 136; r++) {
                int mode = 0;
                for (int i = 0; i < due[c].length; i += 2) {
                    mode = due[c][i] == r ? due[c][i + 1] : mode;
                }
                Due.is("resource " + r + at, x.lock(1, r, 0), mode);
            }
        }
    }

    /** Of several faults the first one that is met. */
    static void faultsInOrder() {
        ClusterShelf x = new ClusterShelf(2);
        go(x, 0, MAKE, 0, 5, 1);
        go(x, 0, MAKE, 0, 6, 2);
        go(x, 0, MAKE, 2, 5, 2);
        Due.fault(x, -2, 0, RENAME, 1, 5, 1, 5);
        Due.is("e isn't met when d is no directory", x.result(0, 4), 1);
        Due.fault(x, -2, 0, RENAME, 0, 99, 1, 5);
        Due.fault(x, -3, 0, RENAME, 0, 99, 2, 5);
        Due.fault(x, -9, 0, RENAME, 0, 6, 2, 5);
        Due.fault(x, -9, 0, RENAME, 2, 5, 0, 5);
        Due.fault(x, -6, 0, RENAME, 0, 5, 2, 5);
        Due.fault(x, -6, 0, RENAME, 0, 6, 0, 5);
        Due.done(x, 0, 0, RENAME, 0, 6, 0, 6);
        Due.fault(x, -6, 0, LINK, 0, 5, 9);
        Due.fault(x, -2, 0, LINK, 1, 5, 9);
        Due.fault(x, -4, 0, LINK, 2, 9, 2);
        Due.fault(x, -4, 0, LINK, 2, 9, 3);
        Due.fault(x, -4, 0, READ, 2, 383);
        Due.fault(x, -4, 0, APPEND, 9, 1);
        Due.fault(x, -5, 0, STAT, 9, 3);
        Due.fault(x, -3, 0, REMOVE, 0, 3);
        Due.fault(x, -8, 0, REMOVE, 0, 6);
        Due.is("no fault changed anything", x.node(0, 2), 7);
    }

    /** A block that is taken is all 0, whatever the disk has there; so is an index. */
    static void takenBlocks() {
        ClusterShelf x = new ClusterShelf(2);
        go(x, 0, MAKE, 0, 5, 1);
        for (int i = 0; i < 16; i++) {
            go(x, 0, WRITE, 1, i, 500 + i);
        }
        go(x, 0, SYNC);
        go(x, 0, REMOVE, 0, 5);
        go(x, 0, SYNC);
        Due.is("what isn't used stays", x.word(146, 7), 507);
        Due.done(x, 1, 0, MAKE, 0, 6, 1);
        Due.done(x, 1, 0, ADD, 1, 3, 1);
        Due.done(x, 0, 0, READ, 1, 2);
        Due.is("the same block", x.cached(0, 146, 3), 1);
        go(x, 0, SYNC);
        words(x, 146, 0, 0, 0, 1, 0, 0, 0, 0, 0, 0, 0, 0, 0, 0, 0, 0);
        go(x, 0, CUT, 1, 0);
        go(x, 1, WRITE, 1, 159, 8);
        go(x, 1, SYNC);
        words(x, 146, 0, 147, 0, 0, 0);
        words(x, 147, 0, 0, 0, 0, 0, 0, 0, 0, 0, 0, 0, 0, 0, 0, 0, 8);
        Due.is("an index and a block", Due.run(x, 1, STAT, 1, 3), 2);
        words(x, 130, 1, 1, 160, 0, 0, 0, 0, 0, 0, 0, 0, 146, 0, 0, 0, 0);
    }

    /** Words that have no block, or no index, are 0, and nothing is read for them. */
    static void wordsWithoutBlocks() {
        ClusterShelf x = new ClusterShelf(2);
        go(x, 0, MAKE, 0, 5, 1);
        go(x, 0, CUT, 1, FULL);
        go(x, 0, SYNC);
        int cached = x.node(0, 5);
        for (int i : new int[] {0, 1, 2, 17, 127, 128, 129, 130, 145, 383}) {
            Due.done(x, 0, 0, READ, 1, i);
        }
        Due.done(x, 0, 0, STAT, 1, 3);
        Due.is("nothing was read", x.node(0, 5), cached);
        go(x, 0, WRITE, 1, 200, 1);
        go(x, 0, SYNC);
        cached = x.node(0, 5);
        for (int i : new int[] {0, 1, 2, 127, 128, 129, 191, 208, 383}) {
            Due.done(x, 0, 0, READ, 1, i);
        }
        Due.is("nothing was read", x.node(0, 5), cached);
    }

    /** A name may be any int but 0, and what is an entry's inode is no name. */
    static void names() {
        ClusterShelf x = new ClusterShelf(2);
        Due.done(x, 1, 0, MAKE, 0, 2, 1);
        Due.done(x, 2, 0, MAKE, 0, -1, 1);
        Due.fault(x, -3, 0, LOOK, 0, 1);
        Due.done(x, 1, 0, LOOK, 0, 2);
        Due.done(x, 3, 0, MAKE, 0, 1, 1);
        Due.done(x, 3, 0, LOOK, 0, 1);
        Due.done(x, 4, 0, MAKE, 0, MIN, 2);
        Due.done(x, 5, 0, MAKE, 0, MAX, 2);
        Due.done(x, 4, 1, LOOK, 0, MIN);
        Due.done(x, 5, 1, LOOK, 0, MAX);
        Due.done(x, 2, 1, LOOK, 0, -1);
        Due.done(x, -1, 1, ENTRY, 0, 1);
        Due.done(x, MIN, 1, ENTRY, 0, 3);
        Due.done(x, MAX, 1, ENTRY, 0, 4);
        Due.done(x, 5, 1, COUNT, 0);
        Due.done(x, 2, 0, LINK, 4, MAX, 1);
        Due.done(x, 0, 0, RENAME, 4, MAX, 5, MIN);
        Due.done(x, 1, 0, LOOK, 5, MIN);
        Due.done(x, 0, 0, REMOVE, 5, MIN);
        Due.done(x, 0, 0, REMOVE, 0, MIN);
        Due.fault(x, -3, 0, LOOK, 0, MIN);
        Due.is("looking", x.about(9), 0);
    }

    /** A word wraps around by ADD; a value may be any int. */
    static void wraps() {
        ClusterShelf x = new ClusterShelf(2);
        go(x, 0, MAKE, 0, 5, 1);
        Due.done(x, MAX, 0, ADD, 1, 0, MAX);
        Due.done(x, MIN, 0, ADD, 1, 0, 1);
        Due.done(x, MIN, 0, READ, 1, 0);
        Due.done(x, MAX, 0, ADD, 1, 0, -1);
        Due.done(x, -2, 0, ADD, 1, 0, MAX);
        Due.done(x, MAX - 1, 0, ADD, 1, 0, MIN);
        Due.done(x, MIN, 0, WRITE, 1, 1, MIN);
        Due.done(x, 0, 0, ADD, 1, 1, MIN);
        Due.done(x, -1, 0, WRITE, 1, 2, -1);
        Due.is("a value below 0 is no fault", x.result(0, 0), 2);
        Due.done(x, -10, 0, WRITE, 1, 2, -10);
        Due.done(x, -10, 0, READ, 1, 2);
        Due.is("it is kept so", x.history(x.about(4) - 1, 6), 2);
        Due.done(x, 3, 0, APPEND, 1, MIN);
        Due.done(x, -5, 0, ADD, 1, 200, -5);
        go(x, 0, SYNC);
        words(x, 146, MAX - 1, 0, -10, MIN, 0);
    }

    /** No data block is left, or one alone: then an index can be taken, but not its block, and is undone. */
    static void noBlockLeft() {
        ClusterShelf x = new ClusterShelf(2);
        for (int k = 1; k <= 16; k++) {
            go(x, 0, MAKE, 0, k, 1);
        }
        // the root has 2; 14 whole files 25 each, file 14 has 8 without an index, file 16 the last 16 with an index
        for (int k = 1; k <= 16; k++) {
            for (int i = 0; i < (k == 14 ? 8 : k == 16 ? 15 : 24); i++) {
                go(x, 0, WRITE, k, 16 * i, k);
            }
        }
        Due.done(x, 0, 0, ROOM);
        Due.fault(x, -7, 0, WRITE, 14, 128, 1);
        Due.fault(x, -7, 0, ADD, 16, 383, 1);
        Due.is("no fault changes anything", x.history(x.about(4) - 1, 9), 0);
        Due.done(x, 5, 0, WRITE, 16, 239, 5);
        Due.fault(x, -7, 0, APPEND, 16, 1);
        Due.done(x, 240, 0, CUT, 16, 224);
        Due.done(x, 1, 0, ROOM);
        Due.fault(x, -7, 0, WRITE, 14, 128, 1);
        Due.done(x, 8, 0, STAT, 14, 3);
        Due.done(x, 1, 0, ROOM);
        Due.done(x, 113, 0, STAT, 14, 2);
        Due.done(x, 224, 0, APPEND, 16, 1);
        go(x, 0, SYNC);
        Due.is("all blocks are used", x.about(7), 376);
        Due.is("looking", x.about(9), 0);
    }

    public static void main(String[] args) {
        journals();
        aGroupThatIsFull();
        theOwnGroup();
        noInodeLeft();
        behindTheLastGroup();
        anEmptyDirectory();
        aFullDirectory();
        appendToADirectory();
        anIndexOfADirectory();
        aFileOfSize0();
        aFileOf384Words();
        anIndexThatComesAndGoes();
        cutsOfAFullFile();
        tailsOfCuts();
        changed();
        fullLogs();
        syncs();
        modes();
        faultsInOrder();
        takenBlocks();
        wordsWithoutBlocks();
        names();
        wraps();
        noBlockLeft();
        Due.end("edges");
    }
}
