import java.lang.reflect.Field;
import java.util.Random;

/**
 * Promise 16, looking at the whole. No schedule makes the disk wrong, so its words are set from outside here:
 * once by hand for each of the six, then at random beside PlainShelf.
 */
public final class LookTest {
    static int[] disk(ClusterShelf x) throws ReflectiveOperationException {
        Field f = ClusterShelf.class.getDeclaredField("disk");
        f.setAccessible(true);
        return (int[]) f.get(x);
    }

    /** Root: 5 is file 1 (two links, the other one is 7 in directory 2), 6 is directory 2; file 1 has an index. */
    static ClusterShelf small() {
        ClusterShelf x = new ClusterShelf(2);
        Due.done(x, 1, 0, 1, 0, 5, 1);
        Due.done(x, 2, 0, 1, 0, 6, 2);
        Due.done(x, 2, 0, 3, 2, 7, 1);
        Due.done(x, 9, 0, 6, 1, 0, 9);
        Due.done(x, 9, 0, 6, 1, 200, 9);
        Due.done(x, 0, 0, 10);
        Due.is("nothing is wrong", x.about(9), 0);
        return x;
    }

    /** What looking gives when these words (block, word, value) are set. */
    static void wrong(int due, int... set) throws ReflectiveOperationException {
        ClusterShelf x = small();
        for (int i = 0; i < set.length; i += 3) {
            disk(x)[set[i] * 16 + set[i + 1]] = set[i + 2];
        }
        Due.is("looking with " + java.util.Arrays.toString(set), x.about(9), due);
    }

    static void byHand() throws ReflectiveOperationException {
        // data blocks: 145 the root's, 146 of directory 2, 147 word 0, 148 the index, 149 word 200
        wrong(0, 0, 0, 1);
        wrong(0, 149, 3, 77);
        wrong(1, 145, 1, 128);
        wrong(1, 145, 1, -1);
        wrong(1, 145, 1, 3);
        wrong(1, 146, 1, 3);
        wrong(1, 145, 1, 3, 132, 1, 1);
        wrong(0, 145, 9, 3);
        wrong(3, 145, 2, 0);
        wrong(3, 145, 0, 0, 146, 0, 0);
        wrong(2, 146, 1, 2);
        wrong(2, 130, 0, 2, 130, 2, 0);
        wrong(2, 145, 1, 0);
        wrong(2, 146, 1, 0);
        wrong(3, 132, 0, 1);
        wrong(3, 132, 0, 2);
        wrong(3, 129, 2, 2);
        wrong(4, 130, 1, 1);
        wrong(4, 130, 1, 3);
        wrong(4, 129, 1, 2);
        wrong(4, 131, 1, 0);
        wrong(4, 146, 0, 0);
        wrong(5, 130, 4, 147);
        wrong(5, 130, 4, 145);
        wrong(5, 148, 0, 149);
        wrong(5, 130, 4, 144);
        wrong(5, 130, 4, 640);
        wrong(5, 130, 4, -1);
        wrong(5, 130, 11, 192);
        wrong(5, 130, 11, 147);
        wrong(5, 148, 0, 5);
        wrong(6, 130, 4, 150);
        wrong(6, 130, 3, 0);
        wrong(6, 128, 0, 15);
        wrong(6, 128, 1, 0);
        wrong(6, 128, 2, 1);
        wrong(6, 192, 0, 1);
        wrong(6, 640 - 64, 1, 1 << 31);
        wrong(0, 128, 1, 63, 130, 4, 150);
        // as it would be if all recovered: node 1's journal has the image of the root's block
        wrong(4, 25, 1, 1, 25, 2, 1, 26, 0, 145, 27, 0, 5, 27, 1, 1, 27, 2, 6, 27, 3, 2, 27, 4, 8, 27, 5, 1, 129, 2, 6);
        wrong(3, 25, 1, 1, 25, 2, 1, 26, 0, 145);
        wrong(3, 25, 1, 16, 25, 2, 1, 26, 15, 145);
        wrong(0, 25, 1, 15, 25, 2, 1, 26, 15, 145);
        wrong(0, 25, 1, 1, 25, 2, 0, 26, 0, 145);
        wrong(0, 25, 1, 0, 25, 2, 1, 26, 0, 145);
    }

    static void notJoined() throws ReflectiveOperationException {
        ClusterShelf x = small();
        x.crash(1, 0);
        x.recover(1);
        disk(x)[25 * 16 + 1] = 1;
        disk(x)[25 * 16 + 2] = 1;
        disk(x)[26 * 16] = 145;
        Due.is("a node that isn't joined doesn't recover", x.about(9), 0);
    }

    static void atRandom() throws ReflectiveOperationException {
        Random random = new Random(77);
        int[] found = new int[7];
        int[] blocks = {128, 129, 130, 131, 132, 145, 146, 147, 148, 149, 1, 2, 3, 4, 25, 26, 27};
        int[] values = {0, 1, 2, 3, 5, 6, 7, 63, 127, 128, 145, 146, 147, 148, 149, 150, 200, 214, 384, -1, 640};
        for (int round = 0; round < 3000; round++) {
            ClusterShelf x = small();
            PlainShelf p = new PlainShelf(2);
            for (int b = 0; b < 640; b++) {
                for (int i = 0; i < 16; i++) {
                    p.disk[b][i] = x.word(b, i);
                }
            }
            for (int k = random.nextInt(4); k >= 0; k--) {
                int b = blocks[random.nextInt(blocks.length)];
                int i = random.nextInt(random.nextBoolean() ? 6 : 16);
                int v = values[random.nextInt(values.length)];
                p.disk[b][i] = v;
                disk(x)[b * 16 + i] = v;
            }
            int due;
            int got = x.about(9);
            try {
                due = p.look();
            } catch (ArrayIndexOutOfBoundsException e) {
                continue;
            }
            Due.is("looking in round " + round, got, due);
            found[due]++;
        }
        for (int i = 0; i < 7; i++) {
            Due.is("answer " + i + " was met", found[i] > 0 ? 1 : 0, 1);
        }
    }

    public static void main(String[] args) throws ReflectiveOperationException {
        byHand();
        notJoined();
        atRandom();
        Due.end("look");
    }
}
