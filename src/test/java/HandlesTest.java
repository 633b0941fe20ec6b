/** Promises 12 to 14: open, close, opened. */
public final class HandlesTest {
    private static final int BAD = ExtentFiles.BAD;
    private static final int[] NO_HANDLES = {-1, 4, 12, Integer.MIN_VALUE, Integer.MAX_VALUE};

    public static void main(String[] args) {
        opensAndCloses();
        refuses();
        closesTheLast();
        opensWithoutLinks();
        Due.end();
    }

    private static void opensAndCloses() {
        ExtentFiles x = new ExtentFiles();
        x.make(0, 0, false);
        x.make(0, 1, false);
        Due.due("open: the first handle", x.open(0, 1), 0);
        Due.due("open: the last handle", x.open(3, 2), 0);
        Due.due("open: the same file at another", x.open(1, 1), 0);
        Due.due("opened: first", x.opened(0), 1);
        Due.due("opened: second", x.opened(1), 1);
        Due.due("opened: none", x.opened(2), ExtentFiles.NONE);
        Due.due("opened: last", x.opened(3), 2);
        Due.due("close: it has a link", x.close(0), 0);
        Due.due("opened: closed", x.opened(0), ExtentFiles.NONE);
        Due.due("opened: the other stays", x.opened(1), 1);
        Due.due("close: again", x.close(0), ExtentFiles.NONE);
        Due.due("open: again", x.open(0, 2), 0);
        Due.due("close: the file is there", x.kind(1), 1);
    }

    private static void refuses() {
        ExtentFiles x = new ExtentFiles();
        x.make(0, 0, false);
        x.make(0, 1, true);
        x.open(2, 1);
        for (int h : NO_HANDLES) {
            Due.due("open(" + h + ", 1)", x.open(h, 1), BAD);
            Due.due("close(" + h + ")", x.close(h), BAD);
            Due.due("opened(" + h + ")", x.opened(h), BAD);
        }
        for (int thing : new int[] {-1, 0, 2, 3, 11, 12, Integer.MIN_VALUE, Integer.MAX_VALUE}) {
            Due.due("open(0, " + thing + ")", x.open(0, thing), BAD);
            Due.due("open: no file goes before busy", x.open(2, thing), BAD);
        }
        Due.due("open: busy with the same file", x.open(2, 1), ExtentFiles.BUSY);
        x.make(0, 5, false);
        Due.due("open: busy with another file", x.open(2, 3), ExtentFiles.BUSY);
        Due.due("opened: as before", x.opened(2), 1);
        Due.due("close: none is open", x.close(1), ExtentFiles.NONE);
    }

    private static void closesTheLast() {
        ExtentFiles x = new ExtentFiles();
        x.make(0, 0, false);
        x.fill(1, 0, 4, 60);
        x.open(0, 1);
        x.open(3, 1);
        x.unlink(0, 0);
        Due.due("close: open elsewhere", x.close(0), 0);
        Due.due("close: it is there", x.read(1, 3), 63);
        Due.due("close: the last handle", x.close(3), 1);
        Due.due("close: it is gone", x.kind(1), 0);
        Due.due("close: its cells too", x.read(1, 3), 0);
        Due.due("close: its number is free", x.make(0, 0, true), 1);
        Due.due("close: and it is no file", x.open(0, 1), BAD);
    }

    private static void opensWithoutLinks() {
        ExtentFiles x = new ExtentFiles();
        x.make(0, 0, false);
        x.open(0, 1);
        x.unlink(0, 0);
        Due.due("open: without links", x.open(1, 1), 0);
        Due.due("close: the first", x.close(0), 0);
        Due.due("opened: the second", x.opened(1), 1);
        Due.due("close: the second", x.close(1), 1);
    }
}
