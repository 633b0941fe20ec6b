/** The edges of promises 12 to 14, sentence by sentence. */
public final class HandleEdgesTest {
    public static void main(String[] args) {
        openAtNoHandle();
        openOfNoFile();
        openWhereAFileIsOpen();
        openAtAllHandles();
        openWithoutLinks();
        closeOfNoHandle();
        closeOfNone();
        closeOfAFileThatStays();
        closeOfAFileThatIsGone();
        openedAtNoHandle();
        openedOfNone();
        Due.end();
    }

    private static void openAtNoHandle() {
        new Rows("open: h is not 0 .. 3: BAD").row("make(0, 0, false) = 1")
            .each("open(?, 1) = BAD", Rows.NO_HANDLES)
            .row("open(0, 1) = 0", "open(3, 1) = 0", "opened(0) = 1", "opened(3) = 1", "opened(1) = NONE", "opened(2) = NONE")
            .each("open(?, 1) = BAD", -1, 4);
    }

    private static void openOfNoFile() {
        new Rows("open: thing is no file: BAD").row(Stores.oneOfEach())
            .each("open(1, ?) = BAD", Rows.NO_NUMBERS)
            .each("open(1, ?) = BAD", 0, 1, 4, 11)
            .each("open(4, ?) = BAD", 0, 1, 4, 12)
            .row("unlink(0, 2) = 0", "open(1, 2) = BAD");
        new Rows("open: no file goes before busy").row(Stores.oneOfEach())
            .each("open(0, ?) = BAD", -1, 0, 1, 4, 11, 12)
            .row("open(0, 2) = BUSY");
        new Rows("open: the last thing").row(Stores.things(11))
            .row("open(3, 11) = BAD", "make(0, 60, false) = 11", "open(3, 11) = 0", "opened(3) = 11");
    }

    private static void openWhereAFileIsOpen() {
        new Rows("open: a file is open at h: BUSY").row("make(0, 0, false) = 1", "make(0, 1, false) = 2")
            .row("open(0, 1) = 0", "open(0, 1) = BUSY", "open(0, 2) = BUSY", "open(3, 2) = 0", "open(3, 1) = BUSY")
            .row("unlink(0, 0) = 0", "open(0, 2) = BUSY", "open(0, 1) = BUSY")
            .row("close(0) = 1", "open(0, 2) = 0", "opened(0) = 2", "crash(2, 0) = 2", "open(0, 2) = 0");
    }

    private static void openAtAllHandles() {
        new Rows("open: a file may be open at several handles").row("make(0, 0, false) = 1")
            .each("open(?, 1) = 0", 0, 1, 2, 3)
            .each("opened(?) = 1", 0, 1, 2, 3)
            .each("open(?, 1) = BUSY", 0, 1, 2, 3)
            .row("links(1) = 1", "sync() = 2");
        new Rows("open: four files at four handles").row("make(0, 0, false) = 1", "make(0, 1, false) = 2")
            .row("make(0, 2, false) = 3", "make(0, 3, false) = 4", "open(0, 4) = 0", "open(1, 3) = 0", "open(2, 2) = 0")
            .row("open(3, 1) = 0", "opened(0) = 4", "opened(1) = 3", "opened(2) = 2", "opened(3) = 1");
    }

    private static void openWithoutLinks() {
        new Rows("open: a file which may have no links").row(Stores.oneOfEach())
            .row("open(3, 3) = 0", "links(3) = 0", "close(0) = 0", "open(0, 3) = 0", "close(3) = 0", "close(0) = 1")
            .row("open(3, 3) = BAD");
    }

    private static void closeOfNoHandle() {
        new Rows("close: h is not 0 .. 3: BAD").row(Stores.oneOfEach()).row("open(3, 2) = 0")
            .each("close(?) = BAD", Rows.NO_HANDLES)
            .row("close(3) = 0", "close(0) = 1");
    }

    private static void closeOfNone() {
        new Rows("close: none is open at h: NONE").each("close(?) = NONE", 0, 1, 2, 3)
            .row("make(0, 0, false) = 1", "open(1, 1) = 0").each("close(?) = NONE", 0, 2, 3)
            .row("close(1) = 0", "close(1) = NONE", "open(1, 1) = 0", "crash(2, 0) = 2", "close(1) = NONE");
    }

    private static void closeOfAFileThatStays() {
        new Rows("close: else 0: the file has links").row("make(0, 0, false) = 1", "link(0, 1, 1) = 2", "open(0, 1) = 0")
            .row("close(0) = 0", "opened(0) = NONE", "kind(1) = 1", "open(3, 1) = 0", "unlink(0, 0) = 1", "close(3) = 0")
            .row("kind(1) = 1");
        new Rows("close: else 0: the file is open at another handle").row("make(0, 0, false) = 1")
            .each("open(?, 1) = 0", 0, 1, 2, 3)
            .row("unlink(0, 0) = 0", "close(3) = 0", "close(0) = 0", "close(1) = 0", "kind(1) = 1", "opened(2) = 1")
            .row("close(2) = 1", "kind(1) = 0");
        new Rows("close: another file's handle stays").row("make(0, 0, false) = 1", "make(0, 1, false) = 2")
            .row("open(0, 1) = 0", "open(1, 2) = 0", "close(0) = 0", "opened(1) = 2", "kind(1) = 1");
    }

    private static void closeOfAFileThatIsGone() {
        new Rows("close: 1 if the file is gone by that").row(Stores.things(12))
            .row("open(3, 10) = 0", "open(2, 8) = 0", "fill(10, 0, 48, 1) = 48", "unlink(0, 9) = 0", "unlink(0, 7) = 0")
            .row("sync() = 12", "close(3) = 1", "kind(10) = 0", "opened(3) = NONE", "links(10) = BAD", "length(10) = BAD")
            .row("read(10, 0) = 0", "sync() = 11", "kind(8) = 1", "close(2) = 1", "kind(8) = 0", "close(2) = NONE")
            .row("make(0, 60, false) = 8", "make(0, 61, false) = 10", "length(10) = 0");
    }

    private static void openedAtNoHandle() {
        new Rows("opened: h is not 0 .. 3: BAD").each("opened(?) = BAD", Rows.NO_HANDLES).row(Stores.oneOfEach())
            .row("open(3, 2) = 0").each("opened(?) = BAD", Rows.NO_HANDLES)
            .row("opened(0) = 3", "opened(3) = 2");
    }

    private static void openedOfNone() {
        new Rows("opened: none is: NONE").each("opened(?) = NONE", 0, 1, 2, 3).row(Stores.oneOfEach())
            .each("opened(?) = NONE", 1, 2, 3)
            .row("opened(0) = 3", "close(0) = 1", "opened(0) = NONE");
    }
}
