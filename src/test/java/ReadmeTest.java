/** The example of README.md, row by row. */
public final class ReadmeTest {
    public static void main(String[] args) {
        ClusterShelf shelf = new ClusterShelf(3);
        Due.is("node 0 begins MAKE", shelf.call(0, 1, 0, 5, 1, 0), 0);
        Due.is("one call ended", shelf.tick(6), 1);
        Due.is("it is done", shelf.result(0, 0), 2);
        Due.is("the new inode", shelf.result(0, 1), 1);
        Due.is("WRITE has ended at once", shelf.call(0, 6, 1, 3, 77, 0), 1);
        Due.is("it isn't safe", shelf.history(1, 9), 1);
        Due.is("node 1 begins READ", shelf.call(1, 5, 1, 3, 0, 0), 0);
        Due.is("it ended", shelf.tick(30), 1);
        Due.is("the word", shelf.result(1, 1), 77);
        Due.is("the write is safe", shelf.history(1, 9), 2);
        Due.is("LOOK has ended at once", shelf.call(0, 0, 0, 9, 0, 0), 1);
        Due.is("with a fault", shelf.result(0, 0), 3);
        Due.is("NO ENTRY", shelf.result(0, 1), -3);
        shelf.crash(0, 0);
        Due.is("no images", shelf.recover(0), 0);
        shelf.start(0);
        Due.is("looking", shelf.about(9), 0);
        Due.end("readme");
    }
}
