/** The edges of the document's terms, which hold for all methods, and of promise 1. */
public final class TermsEdgesTest {
    public static void main(String[] args) {
        newObject();
        twelveThings();
        theRootIsAlwaysThere();
        noNameTwiceInOneDirectory();
        twentyEntriesOverAllDirectories();
        directoryInExactlyOneEntry();
        fileInAnyNumberOfEntries();
        nothingLiesBelowItself();
        fileOf0To48Cells();
        fileIsThereAsLongAsItHasLinksOrIsOpen();
        directoryTakenOutIsGone();
        theLastOf512Calls();
        Due.end();
    }

    private static void newObject() {
        new Rows("a new object: only the root, without entries, in the present and in the saved state")
            .row("kind(0) = 2", "count(0) = 0", "links(0) = 0", "next(0, MIN) = NONE", "find(0, 0) = NONE", "find(0, 63) = NONE")
            .each("kind(?) = 0", 1, 2, 3, 4, 5, 6, 7, 8, 9, 10, 11)
            .each("savedFind(?, 0) = BAD", 1, 2, 3, 4, 5, 6, 7, 8, 9, 10, 11)
            .each("opened(?) = NONE", 0, 1, 2, 3)
            .row("savedFind(0, 0) = NONE", "savedFind(0, 63) = NONE", "savedRead(0, 0) = 0", "savedRead(1, 0) = 0")
            .row("length(0) = BAD", "read(0, 0) = 0", "sum(0) = 0", "faults() = 0")
            .unchanged("sync() = 1", "crash(0, 0) = 1", "crash(2, 0) = 1");
    }

    private static void twelveThings() {
        new Rows("things have the numbers 0 .. 11, and at most 12 are there at a time").row(Stores.things(12))
            .row("sync() = 12", "kind(0) = 2", "kind(11) = 2", "kind(-1) = 0", "kind(12) = 0", "make(0, 60, false) = FULL")
            .row("kind(12) = 0", "sync() = 12");
    }

    private static void theRootIsAlwaysThere() {
        new Rows("thing 0 is the root, a directory that is always there").row("removeDir(0, 0) = NONE", "unlink(0, 0) = NONE")
            .row("link(0, 0, 0) = BAD", "open(0, 0) = BAD", "fill(0, 0, 1, 1) = BAD", "cut(0, 1) = BAD")
            .row("crash(0, 0) = 1", "kind(0) = 2", "make(0, 0, true) = 1", "link(1, 0, 0) = BAD", "removeDir(0, 0) = 0")
            .row("kind(0) = 2", "crash(2, 0) = 1", "kind(0) = 2", "links(0) = 0");
    }

    private static void noNameTwiceInOneDirectory() {
        new Rows("no name is given twice in one directory, but in two").row("make(0, 7, true) = 1", "make(1, 7, true) = 2")
            .row("make(2, 7, false) = 3", "make(0, 7, true) = EXISTS", "make(1, 7, false) = EXISTS", "link(2, 7, 3) = EXISTS")
            .row("link(0, 7, 3) = EXISTS", "rename(2, 7, 1, 7) = IS_DIR", "find(0, 7) = 1", "find(1, 7) = 2", "find(2, 7) = 3");
    }

    private static void twentyEntriesOverAllDirectories() {
        Rows rows = new Rows("all directories together have at most 20 entries").row(Stores.chain())
            .row("removeDir(10, 5) = 0", "make(10, 5, false) = 11");
        for (int dir = 0; dir < 8; dir++) {
            rows.row("link(" + dir + ", 63, 11) = " + (dir + 2));
        }
        rows.row("links(11) = 9", "link(8, 63, 11) = 10", "link(9, 63, 11) = FULL", "link(10, 63, 11) = FULL", "links(11) = 10")
            .row("make(9, 62, true) = FULL", "count(0) = 2", "count(8) = 2", "count(9) = 1", "count(10) = 1")
            .row("rename(10, 5, 9, 62) = 0", "link(10, 5, 11) = FULL", "unlink(0, 63) = 9", "link(10, 5, 11) = 10")
            .row("link(0, 63, 11) = FULL");
    }

    private static void directoryInExactlyOneEntry() {
        new Rows("a directory other than the root is in exactly one entry").row("make(0, 0, true) = 1", "make(0, 63, true) = 2")
            .row("link(0, 5, 1) = BAD", "link(2, 5, 1) = BAD", "links(1) = 1", "rename(0, 0, 2, 0) = 0", "links(1) = 1")
            .row("find(0, 0) = NONE", "find(2, 0) = 1", "rename(2, 0, 2, 63) = 0", "links(1) = 1", "count(2) = 1");
    }

    private static void fileInAnyNumberOfEntries() {
        new Rows("a file is in any number of entries").row("make(0, 0, false) = 1", "make(0, 1, false) = 2", "links(1) = 1")
            .row("link(0, 2, 1) = 2", "link(0, 3, 2) = 2", "unlink(0, 0) = 1", "links(1) = 1", "links(2) = 2", "find(0, 2) = 1")
            .row("unlink(0, 1) = 1", "link(0, 0, 2) = 2", "unlink(0, 2) = 0", "kind(1) = 0", "kind(2) = 1");
    }

    private static void nothingLiesBelowItself() {
        new Rows("nothing lies below itself").row(Stores.chain()).row("rename(0, 5, 11, 0) = LOOP", "rename(0, 5, 1, 0) = LOOP")
            .row("rename(10, 5, 11, 0) = LOOP", "faults() = 0");
    }

    private static void fileOf0To48Cells() {
        new Rows("a file is a row of 0 to 48 cells, each an int").row("make(0, 0, false) = 1", "length(1) = 0")
            .row("cut(1, -1) = BAD", "cut(1, 48) = 0", "cut(1, 49) = BAD", "fill(1, 48, 1, 1) = BAD", "fill(1, 0, 49, 1) = BAD")
            .row("length(1) = 48", "fill(1, 0, 1, MIN) = 48", "fill(1, 47, 1, MAX) = 48", "read(1, 0) = MIN", "read(1, 47) = MAX");
    }

    private static void fileIsThereAsLongAsItHasLinksOrIsOpen() {
        new Rows("a file with links and open: closed first, then unlinked").row("make(0, 0, false) = 1", "open(0, 1) = 0")
            .row("close(0) = 0", "kind(1) = 1", "unlink(0, 0) = 0", "kind(1) = 0", "make(0, 0, false) = 1");
        new Rows("a file with links and open: unlinked first, then closed").row("make(0, 0, false) = 1", "open(0, 1) = 0")
            .row("unlink(0, 0) = 0", "kind(1) = 1", "make(0, 0, false) = 2", "close(0) = 1", "kind(1) = 0", "make(0, 1, true) = 1");
        new Rows("a file with no links lives on cells, handles and number").row(Stores.oneOfEach())
            .row("fill(3, 0, 48, 1) = 48", "cut(3, 47) = 48", "sum(3) = 35720", "open(2, 3) = 0", "close(0) = 0", "kind(3) = 1")
            .row("make(0, 3, false) = 4", "close(2) = 1", "kind(3) = 0", "make(0, 4, false) = 3", "length(3) = 0");
    }

    private static void directoryTakenOutIsGone() {
        new Rows("a directory that is taken out of its entry is gone").row("make(0, 0, true) = 1", "make(0, 1, true) = 2")
            .row("removeDir(0, 0) = 0", "kind(1) = 0", "make(0, 0, true) = 1", "rename(0, 1, 0, 0) = 1", "kind(1) = 0", "kind(2) = 2")
            .row("find(0, 0) = 2", "make(0, 1, false) = 1", "count(1) = BAD");
    }

    /** 511 calls that leave their traces, and one more that must still be right. */
    private static void theLastOf512Calls() {
        ExtentFiles x = new ExtentFiles();
        x.make(0, 0, false);
        for (int call = 2; call <= 511; call++) {
            boolean fills = call % 2 == 0;
            int got = fills ? x.fill(1, 0, 48, call) : x.crash(2, call);
            Due.due("an object is used for at most 512 calls: call " + call, got, fills ? 48 : 2);
        }
        Due.due("an object is used for at most 512 calls: call 512", x.read(1, 47), 510 + 47);
    }
}
