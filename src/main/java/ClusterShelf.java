import java.util.Arrays;
import java.util.NoSuchElementException;

/** A file system that nodes share on one disk. The caller is the schedule. */
public final class ClusterShelf {
    public static final int NONE = -1;

    private static final int LEAST_NODES = 2;
    private static final int MOST_NODES = 4;

    private static final int BLOCKS = 640;
    private static final int WORDS = 16;
    private static final int MARK = 7177;
    private static final int JOURNAL_BLOCKS = 24;
    private static final int GROUPS = 8;
    private static final int FIRST_MAP = 128;
    private static final int GROUP_BLOCKS = 64;
    private static final int GROUP_INODES = 16;
    private static final int FIRST_DATA = 17;
    private static final int DATA_BLOCKS = 47;
    private static final int INODE_BITS = 0xFFFF;
    private static final int HIGH_DATA_BITS = 0x7FFF;
    private static final int INODES = 128;
    private static final int RESOURCES = 136;

    private static final int KIND = 0;
    private static final int LINKS = 1;
    private static final int SIZE = 2;
    private static final int PLACES = 3;
    private static final int DIRECT = 8;
    private static final int INDEX = 11;
    private static final int FILE = 1;
    private static final int DIRECTORY = 2;
    private static final int MOST_WORDS = 384;
    private static final int MOST_ENTRIES = 192;
    private static final int DIRECT_WORDS = 128;

    private static final int SHARED = 1;
    private static final int ALONE = 2;

    private static final int LOOK = 0;
    private static final int MAKE = 1;
    private static final int REMOVE = 2;
    private static final int LINK = 3;
    private static final int RENAME = 4;
    private static final int READ = 5;
    private static final int WRITE = 6;
    private static final int CUT = 7;
    private static final int ENTRY = 8;
    private static final int STAT = 9;
    private static final int SYNC = 10;
    private static final int ADD = 11;
    private static final int APPEND = 12;
    private static final int COUNT = 13;
    private static final int ROOM = 14;

    private static final int NO_DIRECTORY = -2;
    private static final int NO_ENTRY = -3;
    private static final int NO_FILE = -4;
    private static final int NOTHING = -5;
    private static final int THERE_IS_ONE = -6;
    private static final int NO_ROOM = -7;
    private static final int NOT_EMPTY = -8;
    private static final int ELSEWHERE = -9;
    private static final int BEHIND = -10;

    private static final int UNDER_WAY = 1;
    private static final int DONE = 2;
    private static final int FAULT = 3;
    private static final int LOST = 4;

    private static final int UNCHANGED = 0;
    private static final int NOT_SAFE = 1;
    private static final int SAFE = 2;
    private static final int GONE = 3;

    private static final int REQUEST = 0;
    private static final int GRANT = 1;
    private static final int CALL_BACK = 2;
    private static final int RELEASE = 3;

    private static final int LOG_BLOCKS = 16;
    private static final int MOST_TICKS = 100;
    private static final int MOST_DELAY = 20;
    /** A list grows by at most two modes a resource, so no call is tried anew more often at once. */
    private static final int MOST_ROUNDS = 2 * RESOURCES + 2;

    private final int[] disk;
    private final Node[] cluster;
    private final Masters masters;
    private final Mail mail;
    private final Book book;
    private final Trial trial;
    private final Checker checker;
    private int time;
    private int writes;
    private int lost;

    public ClusterShelf(int nodes) {
        int n = nodes < LEAST_NODES ? LEAST_NODES : nodes > MOST_NODES ? MOST_NODES : nodes;
        disk = new int[BLOCKS * WORDS];
        disk[0] = MARK;
        disk[1] = n;
        disk[FIRST_MAP * WORDS] = 1;
        int root = inodeBlock(0) * WORDS;
        disk[root + KIND] = DIRECTORY;
        disk[root + LINKS] = 1;
        cluster = new Node[n];
        for (int i = 0; i < n; i++) {
            cluster[i] = new Node(i);
        }
        masters = new Masters();
        mail = new Mail();
        book = new Book();
        trial = new Trial(disk, cluster[0]);
        checker = new Checker(disk);
    }

    // ---- the schedule

    public int call(int node, int kind, int a, int b, int c, int d)
            throws IllegalArgumentException, IllegalStateException {
        if (!isNode(node) || !isCall(kind, a, b, c, d)) {
            throw new IllegalArgumentException("no such node, kind or what it has");
        }
        Node x = cluster[node];
        if (!x.up || x.task.state == UNDER_WAY) {
            throw new IllegalStateException("the node is down, or has a call under way");
        }
        x.task.begin(kind, time);
        x.task.take(a, b, c, d);
        goOn(x);
        return x.task.state == UNDER_WAY ? 0 : 1;
    }

    public void delay(int from, int to, int ticks) throws IllegalArgumentException {
        if (!isNode(from) || !isNode(to) || ticks < 1 || ticks > MOST_DELAY) {
            throw new IllegalArgumentException("no such node or delay");
        }
        mail.delays[from * MOST_NODES + to] = ticks;
    }

    public int tick(int n) throws IllegalArgumentException {
        if (n < 0 || n > MOST_TICKS) {
            throw new IllegalArgumentException("no such number of ticks");
        }
        int before = book.ended;
        for (int i = 0; i < n; i++) {
            time++;
            int due = mail.gather(time);
            for (int m = 0; m < due; m++) {
                int woken = deliver(m);
                if (isNode(woken)) {
                    goOn(cluster[woken]);
                }
            }
            for (int k = 0; k < cluster.length; k++) {
                if (writeNext(cluster[k])) {
                    goOn(cluster[k]);
                }
            }
        }
        return book.ended - before;
    }

    public void crash(int node, int torn) throws IllegalArgumentException, IllegalStateException {
        if (!isNode(node) || torn < 0 || torn >= WORDS) {
            throw new IllegalArgumentException("no such node or number of words");
        }
        Node x = cluster[node];
        if (!x.up) {
            throw new IllegalStateException("the node is down");
        }
        tear(x, torn);
        book.lose(node);
        if (x.task.state == UNDER_WAY) {
            x.task.end(LOST, 0, time);
            lost++;
        }
        x.goDark();
        mail.forget(node);
        for (int r = 0; r < RESOURCES; r++) {
            if (masterOf(r) == node) {
                masters.wipe(r);
            }
        }
    }

    public int recover(int node) throws IllegalArgumentException, IllegalStateException {
        if (!isNode(node)) {
            throw new IllegalArgumentException("no such node");
        }
        if (cluster[node].up || !cluster[node].joined) {
            throw new IllegalStateException("the node is up or not joined");
        }
        int images = 0;
        for (int i = 0; i < cluster.length; i++) {
            Node x = cluster[i];
            if (!x.up && x.joined) {
                images += replay(x);
                x.joined = false;
            }
        }
        layLocksAnew();
        for (int i = 0; i < cluster.length; i++) {
            goOn(cluster[i]);
        }
        return images;
    }

    public void start(int node) throws IllegalArgumentException, IllegalStateException {
        if (!isNode(node)) {
            throw new IllegalArgumentException("no such node");
        }
        Node x = cluster[node];
        if (x.up || x.joined || someDownAndJoined()) {
            throw new IllegalStateException("the node is up or joined, or another one is down and joined");
        }
        x.up = true;
        x.joined = true;
        layLocksAnew();
        for (int i = 0; i < cluster.length; i++) {
            goOn(cluster[i]);
        }
    }

    // ---- results

    public int result(int node, int what) throws IllegalArgumentException {
        if (!isNode(node) || what < 0 || what > 4) {
            throw new IllegalArgumentException("no such node or what");
        }
        Task t = cluster[node].task;
        switch (what) {
            case 0: return t.state;
            case 1: return t.value;
            case 2: return t.state == UNDER_WAY ? time - t.began : t.took;
            case 3: return t.tries;
            default: return t.listed;
        }
    }

    public int history(int i, int what) throws IndexOutOfBoundsException, IllegalArgumentException {
        if (i < 0 || i >= book.kept()) {
            throw new IndexOutOfBoundsException("no such call");
        }
        if (what < 0 || what >= Book.COLUMNS) {
            throw new IllegalArgumentException("no such what");
        }
        return book.rows[i * Book.COLUMNS + what];
    }

    // ---- what is seen

    public int word(int block, int i) throws IndexOutOfBoundsException {
        if (!isWord(block, i)) {
            throw new IndexOutOfBoundsException("no such word");
        }
        return disk[block * WORDS + i];
    }

    public int cached(int node, int block, int i)
            throws IllegalArgumentException, IndexOutOfBoundsException, NoSuchElementException {
        if (!isNode(node)) {
            throw new IllegalArgumentException("no such node");
        }
        if (!isWord(block, i)) {
            throw new IndexOutOfBoundsException("no such word");
        }
        Cache cache = cluster[node].cache;
        if (!cache.has[block]) {
            throw new NoSuchElementException("the block isn't in the cache");
        }
        return cache.words[block * WORDS + i];
    }

    public int lock(int node, int resource, int what) throws IllegalArgumentException {
        if (!isNode(node) || !isResource(resource) || what < 0 || what > 4) {
            throw new IllegalArgumentException("no such node, resource or what");
        }
        Locks locks = cluster[node].locks;
        switch (what) {
            case 0: return locks.held[resource];
            case 1: return locks.asked[resource];
            case 2: return locks.back[resource];
            case 3: return locks.listMode[resource];
            default: return masters.gave[resource * MOST_NODES + node];
        }
    }

    public int row(int resource, int what) throws IllegalArgumentException {
        if (!isResource(resource) || what < 0) {
            throw new IllegalArgumentException("no such resource or what");
        }
        if (what == 0) {
            return masterOf(resource);
        }
        int count = masters.rowCount[resource];
        if (what == 1) {
            return count;
        }
        int i = (what - 2) / 2;
        if (i >= count) {
            return NONE;
        }
        int at = resource * MOST_NODES + i;
        return what % 2 == 0 ? masters.rowNode[at] : masters.rowMode[at];
    }

    public int message(int i, int what) throws IndexOutOfBoundsException, IllegalArgumentException {
        if (i < 0 || i >= mail.count) {
            throw new IndexOutOfBoundsException("no such message");
        }
        if (what < 0 || what >= Mail.COLUMNS) {
            throw new IllegalArgumentException("no such what");
        }
        return mail.slots[i * Mail.COLUMNS + what];
    }

    public int node(int node, int what) throws IllegalArgumentException {
        if (!isNode(node) || what < 0 || what > 6) {
            throw new IllegalArgumentException("no such node or what");
        }
        Node x = cluster[node];
        switch (what) {
            case 0: return x.up ? 1 : 0;
            case 1: return x.joined ? 1 : 0;
            case 2: return x.journal.logged;
            case 3: return x.journal.left();
            case 4: return x.journal.begun;
            case 5: return x.cache.count;
            default: return x.journal.target();
        }
    }

    public int about(int what) throws IllegalArgumentException {
        switch (what) {
            case 0: return time;
            case 1: return mail.count;
            case 2: return mail.sent;
            case 3: return writes;
            case 4: return book.ended;
            case 5: return lost;
            case 6: return cluster.length;
            case 7: return usedByMaps(true);
            case 8: return usedByMaps(false);
            case 9: return checker.look(cluster);
            default: throw new IllegalArgumentException("no such what");
        }
    }

    // ---- what there is

    private boolean isNode(int i) {
        return i >= 0 && i < cluster.length;
    }

    private static boolean isResource(int r) {
        return r >= 0 && r < RESOURCES;
    }

    private static boolean isInode(int k) {
        return k >= 0 && k < INODES;
    }

    private static boolean isBlock(int block) {
        return block >= 0 && block < BLOCKS;
    }

    private static boolean isWord(int block, int i) {
        return block >= 0 && block < BLOCKS && i >= 0 && i < WORDS;
    }

    private static boolean isData(int block) {
        return block >= FIRST_MAP && block < BLOCKS && (block - FIRST_MAP) % GROUP_BLOCKS >= FIRST_DATA;
    }

    private static boolean isCall(int kind, int a, int b, int c, int d) {
        switch (kind) {
            case LOOK: case REMOVE: return isInode(a) && b != 0;
            case MAKE: return isInode(a) && b != 0 && (c == FILE || c == DIRECTORY);
            case LINK: return isInode(a) && b != 0 && isInode(c);
            case RENAME: return isInode(a) && b != 0 && isInode(c) && d != 0;
            case READ: case WRITE: case ADD: return isInode(a) && b >= 0 && b < MOST_WORDS;
            case CUT: return isInode(a) && b >= 0 && b <= MOST_WORDS;
            case ENTRY: return isInode(a) && b >= 0 && b < MOST_ENTRIES;
            case STAT: return isInode(a) && b >= 0 && b <= 3;
            case APPEND: case COUNT: return isInode(a);
            case SYNC: case ROOM: return true;
            default: return false;
        }
    }

    private static int inodeBlock(int k) {
        return mapBlock(k / GROUP_INODES) + 1 + k % GROUP_INODES;
    }

    private static int mapBlock(int group) {
        return FIRST_MAP + GROUP_BLOCKS * group;
    }

    private static int mapResource(int group) {
        return INODES + group;
    }

    private static int groupOf(int block) {
        return (block - FIRST_MAP) / GROUP_BLOCKS;
    }

    private static int dataNumber(int block) {
        return (block - FIRST_MAP) % GROUP_BLOCKS - FIRST_DATA;
    }

    private static int headBlock(int node) {
        return 1 + JOURNAL_BLOCKS * node;
    }

    private boolean someDownAndJoined() {
        for (int i = 0; i < cluster.length; i++) {
            if (!cluster[i].up && cluster[i].joined) {
                return true;
            }
        }
        return false;
    }

    private int usedByMaps(boolean data) {
        int used = 0;
        for (int g = 0; g < GROUPS; g++) {
            int map = mapBlock(g) * WORDS;
            used += data
                    ? Integer.bitCount(disk[map + 1]) + Integer.bitCount(disk[map + 2] & HIGH_DATA_BITS)
                    : Integer.bitCount(disk[map] & INODE_BITS);
        }
        return used;
    }

    private int masterOf(int r) {
        int n = cluster.length;
        if (n == 0) {
            return NONE;
        }
        for (int i = 0; i < n; i++) {
            int x = (r + i) % n;
            if (cluster[x].joined) {
                return x;
            }
        }
        return NONE;
    }

    // ---- how calls go on

    private void goOn(Node x) {
        for (int round = 0; round < MOST_ROUNDS && mayGoOn(x) && pinAll(x); round++) {
            x.task.tries++;
            trial.run(x);
            if (trial.outcome != Trial.FINE) {
                trial.undo();
            }
            if (trial.outcome == Trial.MISSING) {
                x.locks.list(trial.wantResource, trial.wantMode);
                x.task.listed = x.locks.listCount;
                unpinAll(x);
            } else if (trial.isTooMuch()) {
                trial.undo();
                unpinAll(x);
                waitForLog(x);
            } else {
                endCall(x);
            }
        }
    }

    private boolean mayGoOn(Node x) {
        Task t = x.task;
        if (t.state != UNDER_WAY || t.waitsForLog && x.journal.isFlushing()) {
            return false;
        }
        t.waitsForLog = false;
        if (t.kind == SYNC && !x.journal.isIdle()) {
            waitForLog(x);
            return false;
        }
        return true;
    }

    private void waitForLog(Node x) {
        x.task.waitsForLog = true;
        beginFlush(x);
    }

    /** Stops at the first resource that can't be pinned: so no two calls wait for one another in a ring. */
    private boolean pinAll(Node x) {
        Locks locks = x.locks;
        for (int i = 0; i < locks.listCount; i++) {
            int r = locks.list[i];
            if (locks.pinned[r]) {
                continue;
            }
            boolean called = locks.back[r] != NONE;
            if (called || locks.held[r] < locks.listMode[r]) {
                if (!called && locks.asked[r] == 0) {
                    locks.asked[r] = locks.listMode[r];
                    post(x.number, masterOf(r), REQUEST, r, locks.asked[r]);
                }
                return false;
            }
            locks.pinned[r] = true;
        }
        return true;
    }

    private void unpinAll(Node x) {
        Locks locks = x.locks;
        for (int i = 0; i < locks.listCount; i++) {
            locks.pinned[locks.list[i]] = false;
        }
        for (int i = 0; i < locks.listCount; i++) {
            goDown(x, locks.list[i]);
        }
    }

    /** The call is in the history ahead of the unpinning: a flush that this begins has the call in it. */
    private void endCall(Node x) {
        boolean changed = trial.changes > 0;
        trial.settle();
        x.task.end(trial.outcome == Trial.FAULTY ? FAULT : DONE, trial.value, time);
        book.enter(x, time, changed ? NOT_SAFE : UNCHANGED);
        unpinAll(x);
        x.locks.clearList();
    }

    // ---- messages and masters

    private void post(int from, int to, int kind, int r, int mode) {
        mail.sent++;
        if (isNode(to) && cluster[to].up) {
            mail.send(from, to, kind, r, mode, time);
        }
    }

    /** The node whose call goes on then, or NONE. */
    private int deliver(int m) {
        int at = m * Mail.COLUMNS;
        int from = mail.due[at];
        int to = mail.due[at + 1];
        int kind = mail.due[at + 2];
        int r = mail.due[at + 3];
        int mode = mail.due[at + 4];
        if (!isNode(to) || !isResource(r)) {
            return NONE;
        }
        switch (kind) {
            case REQUEST:
                masters.ask(r, from, mode);
                serve(r);
                return NONE;
            case RELEASE:
                masters.release(r, from, mode);
                serve(r);
                return NONE;
            case GRANT:
                cluster[to].locks.grant(r, mode);
                return to;
            default:
                return callBack(cluster[to], r, mode, from) ? to : NONE;
        }
    }

    private void serve(int r) {
        int master = masterOf(r);
        for (int round = 0; round < MOST_NODES && masters.rowCount[r] > 0; round++) {
            int x = masters.rowNode[r * MOST_NODES];
            int mode = masters.rowMode[r * MOST_NODES];
            if (callOthersBack(r, x, mode, master)) {
                return;
            }
            masters.give(r, x, mode);
            masters.dropFirst(r);
            post(master, x, GRANT, r, mode);
        }
    }

    /** Whether the request stands against a node. */
    private boolean callOthersBack(int r, int x, int mode, int master) {
        int floor = mode == ALONE ? 0 : SHARED;
        boolean against = false;
        for (int y = 0; y < cluster.length; y++) {
            int at = r * MOST_NODES + y;
            if (y == x || masters.gave[at] <= floor) {
                continue;
            }
            against = true;
            if (masters.called[at] == NONE || masters.called[at] > floor) {
                masters.called[at] = floor;
                post(master, y, CALL_BACK, r, floor);
            }
        }
        return against;
    }

    /** Whether the node's call goes on then. */
    private boolean callBack(Node x, int r, int mode, int sender) {
        Locks locks = x.locks;
        if (locks.held[r] <= mode) {
            post(x.number, sender, RELEASE, r, locks.held[r]);
            return false;
        }
        locks.back[r] = locks.back[r] == NONE ? mode : Math.min(locks.back[r], mode);
        goDown(x, r);
        return !locks.pinned[r];
    }

    private void goDown(Node x, int r) {
        Locks locks = x.locks;
        if (!locks.waitsToGoDown(r)) {
            return;
        }
        if (locks.held[r] == ALONE && !x.journal.isIdle()) {
            beginFlush(x);
            return;
        }
        int mode = locks.back[r];
        locks.held[r] = mode;
        locks.back[r] = NONE;
        if (mode == 0) {
            x.cache.dropResource(r);
        }
        post(x.number, masterOf(r), RELEASE, r, mode);
    }

    // ---- flushes

    private void beginFlush(Node x) {
        if (!x.journal.isFlushing()) {
            x.journal.open(x.cache, book.ended);
        }
    }

    /** Whether the node's call goes on then. */
    private boolean writeNext(Node x) {
        Journal journal = x.journal;
        if (!x.up || !journal.isFlushing()) {
            return false;
        }
        journal.write(disk, WORDS);
        writes++;
        if (journal.isAtHead()) {
            book.makeSafe(x.number, journal.mark);
        }
        journal.next++;
        return journal.left() == 0 && endFlush(x);
    }

    /** Whether no other flush begins. */
    private boolean endFlush(Node x) {
        x.journal.close();
        boolean wanted = x.task.waitsForLog;
        for (int r = 0; r < RESOURCES && !wanted; r++) {
            wanted = x.locks.waitsToGoDown(r);
        }
        if (wanted && x.journal.logged > 0) {
            beginFlush(x);
            return false;
        }
        for (int r = 0; r < RESOURCES; r++) {
            goDown(x, r);
        }
        return true;
    }

    private void tear(Node x, int torn) {
        Journal journal = x.journal;
        if (!journal.isFlushing()) {
            return;
        }
        journal.write(disk, torn);
        if (journal.isAtHead() && torn > 2) {
            book.makeSafe(x.number, journal.mark);
        }
    }

    // ---- recovery

    /** How many images were written. */
    private int replay(Node x) {
        int head = headBlock(x.number) * WORDS;
        if (disk[head + 2] != 1) {
            return 0;
        }
        int images = Math.max(0, Math.min(LOG_BLOCKS, disk[head + 1]));
        for (int j = 0; j < images; j++) {
            int block = disk[head + WORDS + j];
            if (isBlock(block)) {
                System.arraycopy(disk, head + (2 + j) * WORDS, disk, block * WORDS, WORDS);
            }
        }
        disk[head + 2] = 0;
        return images;
    }

    private void layLocksAnew() {
        mail.count = 0;
        for (int r = 0; r < RESOURCES; r++) {
            masters.wipe(r);
        }
        for (int i = 0; i < cluster.length; i++) {
            Locks locks = cluster[i].locks;
            Arrays.fill(locks.back, NONE);
            for (int r = 0; r < RESOURCES; r++) {
                masters.give(r, i, locks.held[r]);
                if (locks.asked[r] != 0) {
                    masters.ask(r, i, locks.asked[r]);
                }
            }
        }
        for (int r = 0; r < RESOURCES; r++) {
            serve(r);
        }
    }

    // ---- the parts

    /** One of the nodes. When it is down it has nothing. */
    private static final class Node {
        final int number;
        final Cache cache = new Cache();
        final Journal journal;
        final Locks locks = new Locks();
        final Task task = new Task();
        boolean up = true;
        boolean joined = true;

        Node(int number) {
            this.number = number;
            journal = new Journal(headBlock(number));
        }

        void goDark() {
            up = false;
            cache.wipe();
            journal.wipe();
            locks.wipe();
        }
    }

    /** The blocks that a node has in its memory. */
    private static final class Cache {
        final int[] words = new int[BLOCKS * WORDS];
        final boolean[] has = new boolean[BLOCKS];
        int count;

        void admit(int block) {
            if (!has[block]) {
                has[block] = true;
                count++;
            }
        }

        void drop(int block) {
            if (block >= 0 && block < BLOCKS && has[block]) {
                has[block] = false;
                count--;
            }
        }

        void dropResource(int r) {
            if (r >= INODES) {
                drop(mapBlock(r - INODES));
                return;
            }
            int inode = inodeBlock(r);
            if (!has[inode]) {
                return;
            }
            dropAll(inode * WORDS + PLACES, DIRECT);
            int index = words[inode * WORDS + INDEX];
            if (isData(index) && has[index]) {
                dropAll(index * WORDS, WORDS);
                drop(index);
            }
            drop(inode);
        }

        /** Place 0 means no block, and block 0 is never cached. */
        private void dropAll(int from, int places) {
            for (int i = 0; i < places; i++) {
                drop(words[from + i]);
            }
        }

        void wipe() {
            for (int b = 0; b < BLOCKS; b++) {
                has[b] = false;
            }
            count = 0;
        }
    }

    /** A node's log, and its flush if one is under way. */
    private static final class Journal {
        final int head;
        final int[] log = new int[LOG_BLOCKS];
        int logged;
        /** The blocks of the flush, and their words as they were when it began; their count is 0 if there is none. */
        final int[] blocks = new int[LOG_BLOCKS];
        final int[] words = new int[LOG_BLOCKS * WORDS];
        int count;
        /** The number of the flush's next write. */
        int next;
        int begun;
        /** How many calls had ended when the flush began. */
        int mark;

        Journal(int head) {
            this.head = head;
        }

        boolean isFlushing() {
            return count > 0;
        }

        boolean isIdle() {
            return count == 0 && logged == 0;
        }

        int left() {
            return count == 0 ? 0 : 2 * count + 3 - next;
        }

        /** Whether the next write is the head that makes the flush valid. */
        boolean isAtHead() {
            return count > 0 && next == count + 1;
        }

        boolean hasLogged(int block) {
            for (int i = 0; i < logged; i++) {
                if (log[i] == block) {
                    return true;
                }
            }
            return false;
        }

        /** The log is kept in the order of numbers, as a flush needs it. */
        void add(int block) {
            if (logged >= LOG_BLOCKS || hasLogged(block)) {
                return;
            }
            int at = logged;
            while (at > 0 && log[at - 1] > block) {
                log[at] = log[at - 1];
                at--;
            }
            log[at] = block;
            logged++;
        }

        void remove(int block) {
            int kept = 0;
            for (int i = 0; i < logged; i++) {
                if (log[i] != block) {
                    log[kept] = log[i];
                    kept++;
                }
            }
            logged = kept;
        }

        void open(Cache cache, int ended) {
            if (logged == 0) {
                return;
            }
            for (int j = 0; j < logged; j++) {
                blocks[j] = log[j];
                System.arraycopy(cache.words, log[j] * WORDS, words, j * WORDS, WORDS);
            }
            count = logged;
            logged = 0;
            next = 0;
            begun++;
            mark = ended;
        }

        void close() {
            count = 0;
        }

        void wipe() {
            logged = 0;
            count = 0;
            begun = 0;
        }

        /** The block of the next write, or NONE. */
        int target() {
            if (count == 0) {
                return NONE;
            }
            if (next < count) {
                return head + 2 + next;
            }
            if (next == count) {
                return head + 1;
            }
            int j = next - count - 2;
            return j < 0 || j >= count ? head : blocks[j];
        }

        /** Word i of the next write. */
        private int content(int i) {
            if (next < count) {
                return words[next * WORDS + i];
            }
            if (next == count) {
                return i < count ? blocks[i] : 0;
            }
            int j = next - count - 2;
            if (j >= 0 && j < count) {
                return words[j * WORDS + i];
            }
            switch (i) {
                case 0: return begun;
                case 1: return count;
                case 2: return j < 0 ? 1 : 0;
                default: return 0;
            }
        }

        /** So many words of the next write get to the disk. */
        void write(int[] disk, int many) {
            int block = target();
            if (!isBlock(block)) {
                return;
            }
            for (int i = 0; i < many && i < WORDS; i++) {
                disk[block * WORDS + i] = content(i);
            }
        }
    }

    /** What a node holds, asked for and is called back from, and the list of its call. */
    private static final class Locks {
        final int[] held = new int[RESOURCES];
        final int[] asked = new int[RESOURCES];
        final int[] back = new int[RESOURCES];
        final boolean[] pinned = new boolean[RESOURCES];
        final int[] list = new int[RESOURCES];
        final int[] listMode = new int[RESOURCES];
        int listCount;

        Locks() {
            Arrays.fill(back, NONE);
        }

        boolean waitsToGoDown(int r) {
            return back[r] != NONE && !pinned[r];
        }

        void grant(int r, int mode) {
            held[r] = Math.max(held[r], mode);
            asked[r] = 0;
        }

        /** The list is kept in the order of numbers, as pinning needs it. */
        void list(int r, int mode) {
            if (listMode[r] == 0 && listCount < RESOURCES) {
                int at = listCount;
                while (at > 0 && list[at - 1] > r) {
                    list[at] = list[at - 1];
                    at--;
                }
                list[at] = r;
                listCount++;
            }
            listMode[r] = mode;
        }

        void clearList() {
            Arrays.fill(listMode, 0);
            listCount = 0;
        }

        void wipe() {
            Arrays.fill(held, 0);
            Arrays.fill(asked, 0);
            Arrays.fill(back, NONE);
            for (int r = 0; r < RESOURCES; r++) {
                pinned[r] = false;
            }
            clearList();
        }
    }

    /** A node's latest call. */
    private static final class Task {
        int kind;
        int a;
        int b;
        int c;
        int d;
        int state;
        int value;
        int began;
        int took;
        int tries;
        int listed;
        boolean waitsForLog;

        void begin(int kind, int time) {
            this.kind = kind;
            state = UNDER_WAY;
            value = 0;
            began = time;
            took = 0;
            tries = 0;
            listed = 0;
            waitsForLog = false;
        }

        void take(int a, int b, int c, int d) {
            this.a = a;
            this.b = b;
            this.c = c;
            this.d = d;
        }

        void end(int state, int value, int time) {
            this.state = state;
            this.value = value;
            took = time - began;
            waitsForLog = false;
        }
    }

    /** The messages under way, in the order in which they were sent. */
    private static final class Mail {
        static final int COLUMNS = 6;
        /** A node has one request out, and that stands against three others: far fewer are under way. */
        static final int MOST = 128;
        final int[] delays = new int[MOST_NODES * MOST_NODES];
        final int[] slots = new int[MOST * COLUMNS];
        final int[] due = new int[MOST * COLUMNS];
        int count;
        int sent;

        Mail() {
            Arrays.fill(delays, 1);
        }

        void send(int from, int to, int kind, int r, int mode, int time) {
            if (count >= MOST) {
                return;
            }
            int comes = time + delays[from * MOST_NODES + to];
            for (int i = 0; i < count; i++) {
                int at = i * COLUMNS;
                if (slots[at] == from && slots[at + 1] == to) {
                    comes = Math.max(comes, slots[at + 5]);
                }
            }
            int at = count * COLUMNS;
            slots[at] = from;
            slots[at + 1] = to;
            slots[at + 2] = kind;
            slots[at + 3] = r;
            slots[at + 4] = mode;
            slots[at + 5] = comes;
            count++;
        }

        /** Moves what comes by this time to the due ones: how many they are. */
        int gather(int time) {
            int arrived = 0;
            int kept = 0;
            for (int i = 0; i < count; i++) {
                if (slots[i * COLUMNS + 5] <= time) {
                    System.arraycopy(slots, i * COLUMNS, due, arrived * COLUMNS, COLUMNS);
                    arrived++;
                } else {
                    System.arraycopy(slots, i * COLUMNS, slots, kept * COLUMNS, COLUMNS);
                    kept++;
                }
            }
            count = kept;
            return arrived;
        }

        void forget(int node) {
            int kept = 0;
            for (int i = 0; i < count; i++) {
                if (slots[i * COLUMNS] != node && slots[i * COLUMNS + 1] != node) {
                    System.arraycopy(slots, i * COLUMNS, slots, kept * COLUMNS, COLUMNS);
                    kept++;
                }
            }
            count = kept;
        }
    }

    /** What the masters have of all resources; a node asks once at a time, so a row has a place for each node. */
    private static final class Masters {
        final int[] gave = new int[RESOURCES * MOST_NODES];
        final int[] called = new int[RESOURCES * MOST_NODES];
        final int[] rowNode = new int[RESOURCES * MOST_NODES];
        final int[] rowMode = new int[RESOURCES * MOST_NODES];
        final int[] rowCount = new int[RESOURCES];

        Masters() {
            Arrays.fill(called, NONE);
        }

        void ask(int r, int x, int mode) {
            if (rowCount[r] < MOST_NODES) {
                int at = r * MOST_NODES + rowCount[r];
                rowNode[at] = x;
                rowMode[at] = mode;
                rowCount[r]++;
            }
        }

        void dropFirst(int r) {
            int at = r * MOST_NODES;
            for (int i = 1; i < rowCount[r]; i++) {
                rowNode[at + i - 1] = rowNode[at + i];
                rowMode[at + i - 1] = rowMode[at + i];
            }
            rowCount[r] = Math.max(0, rowCount[r] - 1);
        }

        void give(int r, int x, int mode) {
            int at = r * MOST_NODES + x;
            gave[at] = Math.max(gave[at], mode);
        }

        void release(int r, int x, int mode) {
            gave[r * MOST_NODES + x] = mode;
            called[r * MOST_NODES + x] = NONE;
        }

        void wipe(int r) {
            for (int x = 0; x < MOST_NODES; x++) {
                gave[r * MOST_NODES + x] = 0;
                called[r * MOST_NODES + x] = NONE;
            }
            rowCount[r] = 0;
        }
    }

    /** The calls that ended. */
    private static final class Book {
        static final int COLUMNS = 10;
        static final int FATE = 9;
        static final int MOST = 400;
        final int[] rows = new int[MOST * COLUMNS];
        int ended;

        int kept() {
            return Math.min(ended, MOST);
        }

        void enter(Node x, int time, int fate) {
            if (ended < MOST) {
                Task t = x.task;
                int at = ended * COLUMNS;
                rows[at] = x.number;
                rows[at + 1] = t.kind;
                rows[at + 2] = t.a;
                rows[at + 3] = t.b;
                rows[at + 4] = t.c;
                rows[at + 5] = t.d;
                rows[at + 6] = t.state;
                rows[at + 7] = t.value;
                rows[at + 8] = time;
                rows[at + FATE] = fate;
            }
            ended++;
        }

        /** Of a node's calls among the first so many. */
        void makeSafe(int node, int first) {
            turn(node, first, SAFE);
        }

        void lose(int node) {
            turn(node, ended, GONE);
        }

        private void turn(int node, int first, int fate) {
            for (int i = 0; i < first && i < MOST; i++) {
                int at = i * COLUMNS;
                if (rows[at] == node && rows[at + FATE] == NOT_SAFE) {
                    rows[at + FATE] = fate;
                }
            }
        }
    }

    /** One try of a call, and how it is undone. */
    private static final class Trial {
        static final int RUNNING = 0;
        static final int FINE = 1;
        static final int FAULTY = 2;
        static final int MISSING = 3;
        /** No call changes more than eight maps and a few blocks, or gives more than 25 back. */
        static final int MOST = 32;

        final int[] disk;
        final int[] changed = new int[MOST];
        final boolean[] wasCached = new boolean[MOST];
        final int[] saved = new int[MOST * WORDS];
        final boolean[] isChanged = new boolean[BLOCKS];
        int changes;
        final int[] given = new int[MOST];
        int givens;
        Node node;
        int outcome;
        int value;
        int wantResource;
        int wantMode;
        /** What a call has left to do: an entry to put, an inode without links to give back, or NONE. */
        int putInto;
        int putName;
        int putInode;
        int unlinked;

        Trial(int[] disk, Node first) {
            this.disk = disk;
            node = first;
        }

        void run(Node x) {
            Task t = x.task;
            node = x;
            outcome = RUNNING;
            value = 0;
            putInto = NONE;
            unlinked = NONE;
            switch (t.kind) {
                case LOOK: seek(t); break;
                case MAKE: make(t); break;
                case REMOVE: remove(t); break;
                case LINK: link(t); break;
                case RENAME: rename(t); break;
                case READ: readWord(t); break;
                case WRITE: case ADD: case APPEND: writeWord(t); break;
                case CUT: cut(t); break;
                case ENTRY: entry(t); break;
                case STAT: stat(t); break;
                case COUNT: count(t); break;
                case ROOM: room(); break;
                default: break;
            }
            if (outcome == RUNNING && isInode(unlinked)) {
                giveInodeBack(unlinked);
            }
            if (outcome == RUNNING && isInode(putInto)) {
                putEntry();
            }
            if (outcome == RUNNING) {
                outcome = FINE;
            }
        }

        // -- the ends of a try

        private void finish(int answer) {
            outcome = FINE;
            value = answer;
        }

        /** False, so that a test can end with it. */
        private boolean fail(int fault) {
            outcome = FAULTY;
            value = fault;
            return false;
        }

        void undo() {
            Cache cache = node.cache;
            for (int i = changes - 1; i >= 0; i--) {
                int block = changed[i];
                System.arraycopy(saved, i * WORDS, cache.words, block * WORDS, WORDS);
                if (!wasCached[i]) {
                    cache.drop(block);
                }
            }
            forget();
        }

        /** What was given back leaves first: the log may have no place for the rest ahead of that. */
        void settle() {
            for (int i = 0; i < givens; i++) {
                node.journal.remove(given[i]);
                node.cache.drop(given[i]);
            }
            for (int i = 0; i < changes; i++) {
                if (!isGiven(changed[i])) {
                    node.journal.add(changed[i]);
                }
            }
            forget();
        }

        private void forget() {
            for (int i = 0; i < changes; i++) {
                isChanged[changed[i]] = false;
            }
            changes = 0;
            givens = 0;
        }

        /** Whether the log could not hold what was changed. */
        boolean isTooMuch() {
            int blocks = 0;
            for (int i = 0; i < node.journal.logged; i++) {
                if (!isGiven(node.journal.log[i])) {
                    blocks++;
                }
            }
            for (int i = 0; i < changes; i++) {
                if (!isGiven(changed[i]) && !node.journal.hasLogged(changed[i])) {
                    blocks++;
                }
            }
            return blocks > LOG_BLOCKS;
        }

        private boolean isGiven(int block) {
            for (int i = 0; i < givens; i++) {
                if (given[i] == block) {
                    return true;
                }
            }
            return false;
        }

        // -- resources and words

        private boolean meet(int r, int mode) {
            if (node.locks.pinned[r] && node.locks.held[r] >= mode) {
                return true;
            }
            outcome = MISSING;
            wantResource = r;
            wantMode = mode;
            return false;
        }

        private void load(int block) {
            Cache cache = node.cache;
            int at = block * WORDS;
            for (int i = at; i < at + WORDS; i++) {
                cache.words[i] = disk[i];
            }
            cache.has[block] = true;
            cache.count++;
        }

        private int read(int block, int i) {
            if (!isWord(block, i)) {
                return 0;
            }
            if (!node.cache.has[block]) {
                load(block);
            }
            return node.cache.words[block * WORDS + i];
        }

        private void keep(int block) {
            if (isChanged[block] || changes >= MOST) {
                return;
            }
            isChanged[block] = true;
            changed[changes] = block;
            wasCached[changes] = node.cache.has[block];
            for (int i = 0; i < WORDS; i++) {
                saved[changes * WORDS + i] = node.cache.words[block * WORDS + i];
            }
            changes++;
        }

        private void set(int block, int i, int v) {
            if (!isWord(block, i)) {
                return;
            }
            if (!node.cache.has[block]) {
                load(block);
            }
            keep(block);
            node.cache.words[block * WORDS + i] = v;
        }

        /** All words 0. What the disk has there isn't read. */
        private void clear(int block) {
            keep(block);
            for (int i = 0; i < WORDS; i++) {
                node.cache.words[block * WORDS + i] = 0;
            }
            node.cache.admit(block);
        }

        // -- blocks and inodes

        /** The block of a word, or 0. */
        private int blockOf(int k, int at) {
            int place = at / WORDS;
            if (place < DIRECT) {
                return read(inodeBlock(k), PLACES + place);
            }
            int index = read(inodeBlock(k), INDEX);
            return index == 0 ? 0 : read(index, place - DIRECT);
        }

        /** The block of a word, taken if there was none; 0 if that can't be. */
        private int reach(int k, int at) {
            int home = inodeBlock(k);
            int place = PLACES + at / WORDS;
            if (at >= DIRECT_WORDS) {
                int index = read(home, INDEX);
                if (index == 0) {
                    index = takeBlock(k / GROUP_INODES);
                    if (index == 0) {
                        return 0;
                    }
                    set(home, INDEX, index);
                }
                home = index;
                place = at / WORDS - DIRECT;
            }
            int block = read(home, place);
            if (block == 0) {
                block = takeBlock(k / GROUP_INODES);
                if (block != 0) {
                    set(home, place, block);
                }
            }
            return block;
        }

        private int takeBlock(int first) {
            for (int i = 0; i < GROUPS; i++) {
                int g = (first + i) % GROUPS;
                if (!meet(mapResource(g), ALONE)) {
                    return 0;
                }
                int map = mapBlock(g);
                for (int w = 1; w <= 2; w++) {
                    int used = read(map, w);
                    int free = w == 1 ? ~used : ~used & HIGH_DATA_BITS;
                    if (free != 0) {
                        int bit = Integer.numberOfTrailingZeros(free);
                        int block = map + FIRST_DATA + 32 * (w - 1) + bit;
                        set(map, w, used | 1 << bit);
                        clear(block);
                        return block;
                    }
                }
            }
            fail(NO_ROOM);
            return 0;
        }

        /** The inode, or NONE. */
        private int takeInode(int first) {
            for (int i = 0; i < GROUPS; i++) {
                int g = (first + i) % GROUPS;
                if (!meet(mapResource(g), ALONE)) {
                    return NONE;
                }
                int used = read(mapBlock(g), 0);
                int free = ~used & INODE_BITS;
                if (free != 0) {
                    int bit = Integer.numberOfTrailingZeros(free);
                    set(mapBlock(g), 0, used | 1 << bit);
                    return GROUP_INODES * g + bit;
                }
            }
            fail(NO_ROOM);
            return NONE;
        }

        private boolean giveBack(int block) {
            if (!isData(block)) {
                return true;
            }
            int g = groupOf(block);
            if (!meet(mapResource(g), ALONE)) {
                return false;
            }
            int j = dataNumber(block);
            int w = 1 + j / 32;
            set(mapBlock(g), w, read(mapBlock(g), w) & ~(1 << j % 32));
            if (givens < MOST) {
                given[givens] = block;
                givens++;
            }
            return true;
        }

        /** The blocks of an index or an inode from a place on, whose places are 0 then. */
        private boolean givePlacesBack(int home, int from, int end) {
            for (int i = from; i < end; i++) {
                int block = read(home, i);
                if (block != 0) {
                    if (!giveBack(block)) {
                        return false;
                    }
                    set(home, i, 0);
                }
            }
            return true;
        }

        private void giveInodeBack(int k) {
            int home = inodeBlock(k);
            if (!givePlacesBack(home, PLACES, PLACES + DIRECT)) {
                return;
            }
            int index = read(home, INDEX);
            if (index != 0 && !(givePlacesBack(index, 0, WORDS) && giveBack(index))) {
                return;
            }
            int g = k / GROUP_INODES;
            if (meet(mapResource(g), ALONE)) {
                set(mapBlock(g), 0, read(mapBlock(g), 0) & ~(1 << k % GROUP_INODES));
                clear(home);
            }
        }

        // -- directories

        private boolean meetDirectory(int d, int mode) {
            return meet(d, mode) && (read(inodeBlock(d), KIND) == DIRECTORY || fail(NO_DIRECTORY));
        }

        private boolean meetFile(int k, int mode) {
            return meet(k, mode) && (read(inodeBlock(k), KIND) == FILE || fail(NO_FILE));
        }

        private int sizeOf(int k) {
            return Math.max(0, Math.min(MOST_WORDS, read(inodeBlock(k), SIZE)));
        }

        /** The place of the first entry of a name (0: that is none) below the size, or NONE. */
        private int find(int d, int name) {
            int size = sizeOf(d);
            for (int at = 0; at < size; at += WORDS) {
                int block = blockOf(d, at);
                int end = Math.min(WORDS, size - at);
                for (int i = 0; i < end; i += 2) {
                    int there = block == 0 ? 0 : read(block, i);
                    if (there == name) {
                        return at + i;
                    }
                }
            }
            return NONE;
        }

        /** Looks for the i-th entry that there is: its name, or 0; value counts the entries ahead of it. */
        private int nameOf(int d, int i) {
            int size = sizeOf(d);
            value = 0;
            for (int at = 0; at < size; at += WORDS) {
                int block = blockOf(d, at);
                int end = block == 0 ? 0 : Math.min(WORDS, size - at);
                for (int w = 0; w < end; w += 2) {
                    int name = read(block, w);
                    if (name != 0 && value == i) {
                        return name;
                    }
                    value += name != 0 ? 1 : 0;
                }
            }
            return 0;
        }

        private int inodeAt(int d, int at) {
            return read(blockOf(d, at), at % WORDS + 1);
        }

        private void eraseEntry(int d, int at) {
            int block = blockOf(d, at);
            set(block, at % WORDS, 0);
            set(block, at % WORDS + 1, 0);
        }

        private void putNext(int d, int name, int k, int answer) {
            putInto = d;
            putName = name;
            putInode = k;
            value = answer;
        }

        private void putEntry() {
            int at = find(putInto, 0);
            boolean grows = at == NONE;
            if (grows) {
                at = sizeOf(putInto);
            }
            if (at >= MOST_WORDS) {
                fail(NO_ROOM);
                return;
            }
            int block = reach(putInto, at);
            if (block == 0) {
                return;
            }
            set(block, at % WORDS, putName);
            set(block, at % WORDS + 1, putInode);
            if (grows) {
                set(inodeBlock(putInto), SIZE, at + 2);
            }
        }

        // -- the kinds of calls

        private void seek(Task t) {
            if (!meetDirectory(t.a, SHARED)) {
                return;
            }
            int at = find(t.a, t.b);
            if (at == NONE) {
                fail(NO_ENTRY);
                return;
            }
            finish(inodeAt(t.a, at));
        }

        private void make(Task t) {
            if (!meetDirectory(t.a, ALONE)) {
                return;
            }
            if (find(t.a, t.b) != NONE) {
                fail(THERE_IS_ONE);
                return;
            }
            int k = takeInode(t.a / GROUP_INODES);
            if (!isInode(k) || !meet(k, ALONE)) {
                return;
            }
            clear(inodeBlock(k));
            set(inodeBlock(k), KIND, t.c);
            set(inodeBlock(k), LINKS, 1);
            putNext(t.a, t.b, k, k);
        }

        private void remove(Task t) {
            if (!meetDirectory(t.a, ALONE)) {
                return;
            }
            int at = find(t.a, t.b);
            int k = at == NONE ? NONE : inodeAt(t.a, at);
            if (!isInode(k)) {
                fail(NO_ENTRY);
                return;
            }
            if (!meet(k, ALONE)) {
                return;
            }
            int home = inodeBlock(k);
            if (read(home, KIND) == DIRECTORY && nameOf(k, 0) != 0) {
                fail(NOT_EMPTY);
                return;
            }
            eraseEntry(t.a, at);
            int links = read(home, LINKS) - 1;
            set(home, LINKS, links);
            value = 0;
            unlinked = links == 0 ? k : NONE;
        }

        private void link(Task t) {
            if (!meetDirectory(t.a, ALONE)) {
                return;
            }
            if (find(t.a, t.b) != NONE) {
                fail(THERE_IS_ONE);
                return;
            }
            if (!meetFile(t.c, ALONE)) {
                return;
            }
            int links = read(inodeBlock(t.c), LINKS) + 1;
            set(inodeBlock(t.c), LINKS, links);
            putNext(t.a, t.b, t.c, links);
        }

        private void rename(Task t) {
            if (!meetDirectory(t.a, ALONE) || !meetDirectory(t.c, ALONE)) {
                return;
            }
            int at = find(t.a, t.b);
            int k = at == NONE ? NONE : inodeAt(t.a, at);
            if (!isInode(k)) {
                fail(NO_ENTRY);
                return;
            }
            if (t.a != t.c) {
                if (!meet(k, SHARED)) {
                    return;
                }
                if (read(inodeBlock(k), KIND) == DIRECTORY) {
                    fail(ELSEWHERE);
                    return;
                }
            } else if (t.b == t.d) {
                finish(0);
                return;
            }
            if (find(t.c, t.d) != NONE) {
                fail(THERE_IS_ONE);
                return;
            }
            eraseEntry(t.a, at);
            putNext(t.c, t.d, k, 0);
        }

        private void readWord(Task t) {
            if (!meetFile(t.a, SHARED)) {
                return;
            }
            if (t.b >= sizeOf(t.a)) {
                fail(BEHIND);
                return;
            }
            int block = blockOf(t.a, t.b);
            finish(block == 0 ? 0 : read(block, t.b % WORDS));
        }

        /** WRITE, ADD and APPEND, which meets its full size ahead of the inode's kind. */
        private void writeWord(Task t) {
            if (!meet(t.a, ALONE)) {
                return;
            }
            boolean appends = t.kind == APPEND;
            int size = sizeOf(t.a);
            int at = appends ? size : t.b;
            if (at >= MOST_WORDS) {
                fail(NO_ROOM);
                return;
            }
            if (!meetFile(t.a, ALONE)) {
                return;
            }
            int block = reach(t.a, at);
            if (block == 0) {
                return;
            }
            int v = appends ? t.b : t.c;
            if (t.kind == ADD) {
                v += read(block, at % WORDS);
            }
            set(block, at % WORDS, v);
            if (at >= size) {
                set(inodeBlock(t.a), SIZE, at + 1);
            }
            finish(appends ? at : v);
        }

        private void cut(Task t) {
            if (!meetFile(t.a, ALONE)) {
                return;
            }
            int home = inodeBlock(t.a);
            int size = t.b;
            int had = read(home, SIZE);
            int first = (size + WORDS - 1) / WORDS;
            if (!givePlacesBack(home, PLACES + first, PLACES + DIRECT)) {
                return;
            }
            int index = read(home, INDEX);
            if (index != 0) {
                if (!givePlacesBack(index, Math.max(first - DIRECT, 0), WORDS)) {
                    return;
                }
                if (size <= DIRECT_WORDS) {
                    if (!giveBack(index)) {
                        return;
                    }
                    set(home, INDEX, 0);
                }
            }
            set(home, SIZE, size);
            int tail = size % WORDS == 0 ? 0 : blockOf(t.a, size);
            for (int i = size % WORDS; tail != 0 && i < WORDS; i++) {
                set(tail, i, 0);
            }
            finish(had);
        }

        private void entry(Task t) {
            if (!meetDirectory(t.a, SHARED)) {
                return;
            }
            int name = nameOf(t.a, t.b);
            if (name == 0) {
                fail(NO_ENTRY);
                return;
            }
            finish(name);
        }

        private void count(Task t) {
            if (meetDirectory(t.a, SHARED)) {
                nameOf(t.a, MOST_ENTRIES);
                finish(value);
            }
        }

        private void stat(Task t) {
            if (!meet(t.a, SHARED)) {
                return;
            }
            int home = inodeBlock(t.a);
            if (read(home, KIND) == 0) {
                fail(NOTHING);
                return;
            }
            if (t.b <= SIZE) {
                finish(read(home, t.b));
                return;
            }
            int blocks = countPlaces(home, PLACES, PLACES + DIRECT);
            int index = read(home, INDEX);
            finish(index == 0 ? blocks : blocks + 1 + countPlaces(index, 0, WORDS));
        }

        private int countPlaces(int home, int from, int end) {
            int blocks = 0;
            for (int i = from; i < end; i++) {
                blocks += read(home, i) != 0 ? 1 : 0;
            }
            return blocks;
        }

        private void room() {
            int free = 0;
            for (int g = 0; g < GROUPS; g++) {
                if (!meet(mapResource(g), SHARED)) {
                    return;
                }
                free += DATA_BLOCKS - Integer.bitCount(read(mapBlock(g), 1))
                        - Integer.bitCount(read(mapBlock(g), 2) & HIGH_DATA_BITS);
            }
            finish(free);
        }
    }

    /** Looks at the whole, as it would be if all joined nodes recovered. */
    private static final class Checker {
        final int[] disk;
        /** For each block, the block that has its words when all have recovered. */
        final int[] source = new int[BLOCKS];
        final int[] named = new int[INODES];
        final boolean[] reached = new boolean[INODES];
        final int[] queue = new int[INODES];
        int queued;
        /** What words 0, 1 and 2 of each group's map should be. */
        final int[] bits = new int[GROUPS * 3];
        boolean dangling;

        Checker(int[] disk) {
            this.disk = disk;
        }

        int look(Node[] cluster) {
            recoverAll(cluster);
            walk();
            if (dangling) {
                return 1;
            }
            if (isNamedTwice()) {
                return 2;
            }
            if (isLeftAlone()) {
                return 3;
            }
            if (hasWrongLinks()) {
                return 4;
            }
            if (!ownBlocks()) {
                return 5;
            }
            return hasWrongMap() ? 6 : 0;
        }

        private void recoverAll(Node[] cluster) {
            for (int b = 0; b < BLOCKS; b++) {
                source[b] = b;
            }
            for (int i = 0; i < cluster.length; i++) {
                int head = headBlock(i);
                if (!cluster[i].joined || disk[head * WORDS + 2] != 1) {
                    continue;
                }
                int images = Math.min(LOG_BLOCKS, disk[head * WORDS + 1]);
                for (int j = 0; j < images; j++) {
                    int block = disk[(head + 1) * WORDS + j];
                    if (isBlock(block)) {
                        source[block] = head + 2 + j;
                    }
                }
            }
        }

        private int at(int block, int i) {
            return isWord(block, i) ? disk[source[block] * WORDS + i] : 0;
        }

        private int kindOf(int k) {
            return at(inodeBlock(k), KIND);
        }

        private void walk() {
            Arrays.fill(named, 0);
            for (int k = 0; k < INODES; k++) {
                reached[k] = false;
            }
            dangling = false;
            queued = 0;
            reach(0);
            for (int i = 0; i < queued && i < INODES; i++) {
                followEntries(queue[i]);
            }
        }

        private void reach(int k) {
            if (!reached[k]) {
                reached[k] = true;
                if (kindOf(k) == DIRECTORY && queued < INODES) {
                    queue[queued] = k;
                    queued++;
                }
            }
        }

        private void followEntries(int d) {
            int inode = inodeBlock(d);
            int size = Math.min(MOST_WORDS, at(inode, SIZE));
            int index = at(inode, INDEX);
            for (int w = 0; w < size; w += 2) {
                int place = w / WORDS;
                int block = place < DIRECT ? at(inode, PLACES + place)
                        : index == 0 ? 0 : at(index, place - DIRECT);
                if (block == 0 || at(block, w % WORDS) == 0) {
                    continue;
                }
                int k = at(block, w % WORDS + 1);
                if (!isInode(k) || kindOf(k) == 0) {
                    dangling = true;
                } else {
                    named[k]++;
                    reach(k);
                }
            }
        }

        private boolean isNamedTwice() {
            for (int k = 1; k < INODES; k++) {
                if (named[k] > 1 && kindOf(k) == DIRECTORY) {
                    return true;
                }
            }
            return named[0] > 0;
        }

        private boolean isLeftAlone() {
            for (int k = 1; k < INODES; k++) {
                if (!reached[k] && kindOf(k) != 0) {
                    return true;
                }
            }
            return false;
        }

        private boolean hasWrongLinks() {
            for (int k = 0; k < INODES; k++) {
                if (at(inodeBlock(k), LINKS) != (k == 0 ? 1 : named[k])) {
                    return true;
                }
            }
            return false;
        }

        /** Gathers the bits of what is used; false if a place has a block that it can't own. */
        private boolean ownBlocks() {
            Arrays.fill(bits, 0);
            for (int k = 0; k < INODES; k++) {
                if (kindOf(k) == 0) {
                    continue;
                }
                bits[k / GROUP_INODES * 3] |= 1 << k % GROUP_INODES;
                int home = inodeBlock(k);
                int index = at(home, INDEX);
                if (!ownPlaces(home, PLACES, INDEX + 1) || index != 0 && !ownPlaces(index, 0, WORDS)) {
                    return false;
                }
            }
            return true;
        }

        private boolean ownPlaces(int home, int from, int end) {
            for (int i = from; i < end; i++) {
                int block = at(home, i);
                if (block == 0) {
                    continue;
                }
                if (!isData(block)) {
                    return false;
                }
                int j = dataNumber(block);
                int w = groupOf(block) * 3 + 1 + j / 32;
                int bit = 1 << j % 32;
                if ((bits[w] & bit) != 0) {
                    return false;
                }
                bits[w] |= bit;
            }
            return true;
        }

        private boolean hasWrongMap() {
            for (int g = 0; g < GROUPS; g++) {
                for (int i = 0; i < WORDS; i++) {
                    if (at(mapBlock(g), i) != (i < 3 ? bits[g * 3 + i] : 0)) {
                        return true;
                    }
                }
            }
            return false;
        }
    }
}
