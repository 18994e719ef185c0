import java.util.ArrayList;
import java.util.Arrays;
import java.util.List;
import java.util.Random;
import java.util.function.IntSupplier;

/**
 * Many schedules, each on the class and on PlainShelf at once: every answer and all that can be seen
 * must be alike, and looking at the whole must find nothing wrong.
 */
public final class SchedulesTest {
    static final int SCHEDULES = 300;
    static final int STEPS = 260;
    static int wrong = 0;
    static String where = "";

    static String answer(IntSupplier call) {
        try {
            return Integer.toString(call.getAsInt());
        } catch (RuntimeException e) {
            return "throws." + e.getClass().getSimpleName();
        }
    }

    static boolean same(String call, IntSupplier got, IntSupplier due) {
        String g = answer(got);
        String d = answer(due);
        if (g.equals(d)) {
            return true;
        }
        wrong++;
        if (wrong <= 20) {
            System.out.println(where + ": " + call + " answered " + g + ", due is " + d);
        }
        return false;
    }

    static IntSupplier done(Runnable r) {
        return () -> {
            r.run();
            return 0;
        };
    }

    static void compareLightly(ClusterShelf x, PlainShelf p) {
        for (int w = -1; w <= 10; w++) {
            final int what = w;
            same("about(" + w + ")", () -> x.about(what), () -> p.about(what));
        }
        same("looking", () -> x.about(9), () -> 0);
        for (int i = -1; i <= p.n; i++) {
            final int node = i;
            for (int w = -1; w <= 7; w++) {
                final int what = w;
                same("node(" + i + ", " + w + ")", () -> x.node(node, what), () -> p.node(node, what));
                same("result(" + i + ", " + w + ")", () -> x.result(node, what), () -> p.result(node, what));
            }
        }
        for (int i = -1; i <= p.messages.size(); i++) {
            final int k = i;
            for (int w = -1; w <= 6; w++) {
                final int what = w;
                same("message(" + i + ", " + w + ")", () -> x.message(k, what), () -> p.message(k, what));
            }
        }
    }

    static void compareDeeply(ClusterShelf x, PlainShelf p) {
        for (int r = -1; r <= 136; r++) {
            final int res = r;
            for (int w = -1; w <= 11; w++) {
                final int what = w;
                same("row(" + r + ", " + w + ")", () -> x.row(res, what), () -> p.row(res, what));
            }
            for (int i = 0; i < p.n; i++) {
                final int node = i;
                for (int w = 0; w <= 4; w++) {
                    final int what = w;
                    same("lock(" + i + ", " + r + ", " + w + ")",
                            () -> x.lock(node, res, what), () -> p.lock(node, res, what));
                }
            }
        }
        for (int i = 0; i <= p.entries.size(); i++) {
            final int k = i;
            for (int w = 0; w <= 9; w++) {
                final int what = w;
                same("history(" + i + ", " + w + ")", () -> x.history(k, what), () -> p.history(k, what));
            }
        }
    }

    static void compareWords(ClusterShelf x, PlainShelf p) {
        for (int b = 0; b < 640; b++) {
            final int block = b;
            for (int w = 0; w < 16; w++) {
                final int i = w;
                if (x.word(b, w) != p.word(b, w)) {
                    same("word(" + b + ", " + w + ")", () -> x.word(block, i), () -> p.word(block, i));
                }
            }
            for (int m = 0; m < p.n; m++) {
                final int node = m;
                if (!p.members[m].cache.containsKey(b)) {
                    same("cached(" + m + ", " + b + ", 3)",
                            () -> x.cached(node, block, 3), () -> p.cached(node, block, 3));
                    continue;
                }
                for (int w = 0; w < 16; w++) {
                    final int i = w;
                    same("cached(" + m + ", " + b + ", " + w + ")",
                            () -> x.cached(node, block, i), () -> p.cached(node, block, i));
                }
            }
        }
    }

    /** What kinds of calls a schedule likes, so that full logs, full groups and long directories are met. */
    static final int[][] LIKES = {
        {0, 1, 1, 1, 2, 2, 3, 3, 4, 4, 4, 5, 6, 6, 7, 8, 9, 10, 11, 12, 13, 14},
        {1, 1, 6, 6, 6, 6, 6, 11, 12, 12, 7, 2, 9, 14, 5},
        {1, 1, 1, 1, 3, 3, 3, 2, 4, 4, 8, 13, 0},
        {1, 6, 6, 6, 5, 5, 5, 11, 11, 7, 10},
        {1, 2, 1, 2, 3, 2, 4, 6, 7, 10},
        {6, 6, 6, 6, 6, 6, 6, 6, 12, 7, 2, 1},
    };

    final Random random;
    final ClusterShelf x;
    final PlainShelf p;
    final int[] likes;
    final int names;
    final int inodes;
    final boolean stormy;
    /** Most calls are of node 0, so that its log gets full ahead of any call back. */
    final boolean lonely;

    SchedulesTest(int seed) {
        random = new Random(seed);
        int nodes = random.nextInt(7);
        x = new ClusterShelf(nodes);
        p = new PlainShelf(nodes);
        likes = LIKES[seed % LIKES.length];
        names = random.nextBoolean() ? 5 : 300;
        inodes = random.nextInt(3) == 0 ? 128 : 3 + random.nextInt(12);
        stormy = random.nextInt(3) != 0;
        lonely = random.nextInt(3) == 0;
    }

    int any(int below) {
        return random.nextInt(below);
    }

    /** A block as some node or the disk has it: near enough to choose what calls are about. */
    int[] seen(int block) {
        for (PlainShelf.Member m : p.members) {
            if (m.cache.containsKey(block)) {
                return m.cache.get(block);
            }
        }
        return p.disk[block];
    }

    /** Mostly an inode of this kind, so that calls have something to work on. */
    int inode(int kind) {
        if (any(12) == 0) {
            return any(8) == 0 ? any(260) - 100 : any(inodes);
        }
        List<Integer> found = new ArrayList<>();
        for (int k = 0; k < 128; k++) {
            if (seen(PlainShelf.at(k))[0] == kind) {
                found.add(k);
            }
        }
        return found.isEmpty() ? any(inodes) : found.get(any(Math.min(inodes, found.size())));
    }

    /** For calls that look for a name, mostly one that is in this directory. */
    int name(int d, boolean known) {
        if (known && d >= 0 && d < 128 && any(6) != 0) {
            int[] inode = seen(PlainShelf.at(d));
            int size = inode[0] == 2 ? Math.min(128, inode[2]) : 0;
            for (int i = 0; i < 6 && size > 0; i++) {
                int w = any(size / 2) * 2;
                int name = inode[3 + w / 16] == 0 ? 0 : seen(inode[3 + w / 16])[w % 16];
                if (name != 0) {
                    return name;
                }
            }
        }
        return any(80) == 0 ? 0 : any(names) - names / 3;
    }

    int place() {
        return any(60) == 0 ? any(800) - 200 : any(2) == 0 ? any(24) * 16 + any(16) : any(128) * 3;
    }

    void begin() {
        int node = any(50) == 0 ? any(9) - 2 : lonely && any(12) != 0 ? 0 : any(p.n);
        int liked = any(80) == 0 ? any(20) - 2 : likes[any(likes.length)];
        int kind = liked > 4 && any(15) != 0 && p.about(8) + p.members[0].cache.size() < 4 ? 1 : liked;
        int a = inode(kind <= 4 || kind == 8 || kind == 13 || kind == 9 && any(2) == 0 ? 2 : 1);
        int b = kind <= 4 ? name(a, kind == 0 || kind == 2 || kind == 4)
                : kind == 8 ? any(12) : kind == 9 ? any(5) : kind == 12 ? any(99) : place();
        int c = kind == 1 ? (any(60) == 0 ? any(5) : any(4) == 0 ? 2 : 1)
                : kind == 3 ? inode(1) : kind == 4 ? (any(2) == 0 ? a : inode(2)) : any(1000);
        int d = any(20) == 0 ? b : name(c, false);
        same("call(" + node + ", " + kind + ", " + a + ", " + b + ", " + c + ", " + d + ")",
                () -> x.call(node, kind, a, b, c, d), () -> p.call(node, kind, a, b, c, d));
    }

    void trouble() {
        int node = any(30) == 0 ? any(9) - 2 : any(p.n);
        int much = any(20) == 0 ? any(40) - 10 : any(16);
        switch (any(5)) {
            case 0:
            case 1:
                same("recover(" + node + ")", () -> x.recover(node), () -> p.recover(node));
                break;
            case 2:
            case 3:
                same("start(" + node + ")", done(() -> x.start(node)), done(() -> p.start(node)));
                break;
            default:
                same("crash(" + node + ", " + much + ")",
                        done(() -> x.crash(node, much)), done(() -> p.crash(node, much)));
                break;
        }
    }

    void step() {
        int what = any(100);
        if (what < 45) {
            begin();
        } else if (what < 90) {
            int n = any(40) == 0 ? any(300) - 100 : any(5) == 0 ? any(60) : any(6);
            same("tick(" + n + ")", () -> x.tick(n), () -> p.tick(n));
        } else if (what < 94) {
            int from = any(p.n + 1);
            int to = any(p.n + 1);
            int ticks = any(23) - 1;
            same("delay(" + from + ", " + to + ", " + ticks + ")",
                    done(() -> x.delay(from, to, ticks)), done(() -> p.delay(from, to, ticks)));
        } else if (stormy) {
            trouble();
        }
    }

    public static void main(String[] args) {
        int first = args.length > 0 ? Integer.parseInt(args[0]) : 0;
        int many = args.length > 1 ? Integer.parseInt(args[1]) : SCHEDULES;
        int[][] met = new int[15][11];
        int[] fates = new int[4];
        int lost = 0;
        for (int seed = first; seed < first + many && wrong == 0; seed++) {
            SchedulesTest t = new SchedulesTest(seed);
            for (int s = 0; s < STEPS && wrong == 0; s++) {
                where = "schedule " + seed + ", step " + s;
                t.step();
                compareLightly(t.x, t.p);
                if (s % 9 == 0) {
                    compareDeeply(t.x, t.p);
                }
                if (s % 13 == 0) {
                    compareWords(t.x, t.p);
                }
            }
            lost += t.p.lost;
            for (PlainShelf.Entry e : t.p.entries) {
                met[e.kind][e.state == 2 ? 0 : -e.value]++;
                fates[e.fate]++;
            }
        }
        System.out.println("calls that ended, a row for each kind: how many were done, and met each fault from -1 on");
        for (int[] row : met) {
            System.out.println("  " + Arrays.toString(row));
        }
        System.out.println("what became of them: " + Arrays.toString(fates) + ", lost: " + lost);
        if (wrong != 0) {
            System.exit(1);
        }
    }
}
