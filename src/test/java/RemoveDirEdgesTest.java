/** The edges of promise 5, sentence by sentence. */
public final class RemoveDirEdgesTest {
    public static void main(String[] args) {
        dirIsNoDirectory();
        nameIsNot0To63();
        noEntryWithTheName();
        itIsAFiles();
        theDirectoryHasEntries();
        theDirectoryIsEmptyAgain();
        takesItOut();
        Due.end();
    }

    private static void dirIsNoDirectory() {
        new Rows("removeDir: dir is no directory: BAD").row(Stores.oneOfEach())
            .each("removeDir(?, 1) = BAD", Rows.NO_NUMBERS)
            .each("removeDir(?, 1) = BAD", 2, 3, 4, 11)
            .each("removeDir(?, 64) = BAD", -1, 2, 4, 12)
            .row("removeDir(0, 1) = 0");
    }

    private static void nameIsNot0To63() {
        new Rows("removeDir: name is not 0 .. 63: BAD").row("make(0, 0, true) = 1", "make(0, 63, true) = 2")
            .row("make(0, 5, true) = 3", "make(3, 0, true) = 4", "make(3, 63, true) = 5")
            .each("removeDir(0, ?) = BAD", Rows.NO_NAMES)
            .each("removeDir(3, ?) = BAD", Rows.NO_NAMES)
            .row("removeDir(0, 0) = 0", "removeDir(0, 63) = 0", "removeDir(3, 0) = 0", "removeDir(3, 63) = 0", "sync() = 2");
    }

    private static void noEntryWithTheName() {
        new Rows("removeDir: dir has no entry with the name: NONE")
            .row("removeDir(0, 0) = NONE", "removeDir(0, 63) = NONE")
            .row("make(0, 5, true) = 1", "make(0, 6, false) = 2", "make(1, 7, true) = 3")
            .each("removeDir(0, ?) = NONE", 0, 4, 7, 63)
            .each("removeDir(1, ?) = NONE", 5, 6, 8)
            .row("removeDir(1, 7) = 0", "removeDir(1, 7) = NONE");
    }

    private static void itIsAFiles() {
        new Rows("removeDir: it is a file's: NOT_DIR")
            .row("make(0, 0, false) = 1", "make(0, 63, false) = 2", "fill(2, 0, 48, 1) = 48", "open(0, 1) = 0")
            .row("link(0, 1, 2) = 2")
            .row("removeDir(0, 0) = NOT_DIR", "removeDir(0, 63) = NOT_DIR", "removeDir(0, 1) = NOT_DIR");
    }

    private static void theDirectoryHasEntries() {
        new Rows("removeDir: the directory has one entry, with the first name: NOT_EMPTY")
            .row("make(0, 0, true) = 1", "make(1, 0, false) = 2", "removeDir(0, 0) = NOT_EMPTY");
        new Rows("removeDir: the directory has one entry, with the last name: NOT_EMPTY")
            .row("make(0, 0, true) = 1", "make(1, 63, true) = 2", "removeDir(0, 0) = NOT_EMPTY", "removeDir(1, 63) = 0");
        new Rows("removeDir: the directory has entries: NOT_EMPTY").row(Stores.entries(20))
            .row("count(2) = 9", "removeDir(0, 1) = NOT_EMPTY");
        new Rows("removeDir: the last thing has an entry").row(Stores.bothFull())
            .row("removeDir(0, 10) = NOT_EMPTY", "removeDir(0, 8) = 0");
        Rows rows = new Rows("removeDir: a chain is taken out from its end").row(Stores.chain());
        for (int dir = 1; dir < 11; dir++) {
            rows.row("removeDir(" + (dir - 1) + ", 5) = NOT_EMPTY");
        }
        for (int dir = 11; dir > 0; dir--) {
            rows.row("removeDir(" + (dir - 1) + ", 5) = 0");
        }
        rows.row("sync() = 1", "count(0) = 0");
    }

    private static void theDirectoryIsEmptyAgain() {
        new Rows("removeDir: the directory has entries no longer").row("make(0, 0, true) = 1", "make(0, 1, false) = 2")
            .row("link(1, 0, 2) = 2", "removeDir(0, 0) = NOT_EMPTY", "unlink(1, 0) = 1")
            .row("make(1, 0, true) = 3", "removeDir(0, 0) = NOT_EMPTY", "rename(1, 0, 0, 2) = 0")
            .row("rename(0, 2, 1, 63) = 0", "removeDir(0, 0) = NOT_EMPTY", "removeDir(1, 63) = 0")
            .row("removeDir(0, 0) = 0", "kind(1) = 0");
        new Rows("removeDir: the entries next to its own are of others").row(Stores.things(12))
            .row("rename(0, 2, 1, 63) = 0", "make(0, 60, false) = FULL", "link(5, 0, 2) = 2", "removeDir(1, 63) = 0");
    }

    private static void takesItOut() {
        new Rows("removeDir: else answers 0, and it is gone").row(Stores.things(12))
            .row("removeDir(0, 10) = 0", "kind(11) = 0", "links(11) = BAD", "count(11) = BAD", "find(11, 0) = BAD")
            .row("make(11, 0, false) = BAD", "find(0, 10) = NONE", "count(0) = 10", "sync() = 11")
            .row("removeDir(0, 10) = NONE", "make(0, 10, true) = 11", "kind(11) = 2", "count(11) = 0");
    }
}
