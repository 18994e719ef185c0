import java.util.ArrayList;
import java.util.List;
import java.util.NoSuchElementException;

/** All that can be seen of an object, so that a test can tell whether a call changed anything. */
final class Whole {
    private static final int NOT_CACHED = 777777;

    static List<Integer> of(ClusterShelf x) {
        List<Integer> all = new ArrayList<>();
        for (int w = 0; w <= 9; w++) {
            all.add(x.about(w));
        }
        int nodes = x.about(6);
        for (int i = 0; i < nodes; i++) {
            for (int w = 0; w <= 6; w++) {
                all.add(x.node(i, w));
            }
            for (int w = 0; w <= 4; w++) {
                all.add(x.result(i, w));
            }
        }
        for (int i = 0; i < Math.min(400, x.about(4)); i++) {
            for (int w = 0; w <= 9; w++) {
                all.add(x.history(i, w));
            }
        }
        for (int i = 0; i < x.about(1); i++) {
            for (int w = 0; w <= 5; w++) {
                all.add(x.message(i, w));
            }
        }
        for (int r = 0; r < 136; r++) {
            for (int w = 0; w < 2 + 2 * nodes; w++) {
                all.add(x.row(r, w));
            }
            for (int i = 0; i < nodes; i++) {
                for (int w = 0; w <= 4; w++) {
                    all.add(x.lock(i, r, w));
                }
            }
        }
        for (int b = 0; b < 640; b++) {
            for (int i = 0; i < 16; i++) {
                all.add(x.word(b, i));
            }
            for (int node = 0; node < nodes; node++) {
                addCached(all, x, node, b);
            }
        }
        return all;
    }

    private static void addCached(List<Integer> all, ClusterShelf x, int node, int block) {
        try {
            for (int i = 0; i < 16; i++) {
                all.add(x.cached(node, block, i));
            }
        } catch (NoSuchElementException e) {
            all.add(NOT_CACHED);
        }
    }

    static void unchanged(String what, ClusterShelf x, List<Integer> before) {
        Due.is(what + " changes nothing", before.equals(of(x)) ? 1 : 0, 1);
    }
}
