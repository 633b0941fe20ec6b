/** The edges of promise 2, sentence by sentence. */
public final class MakeEdgesTest {
    public static void main(String[] args) {
        dirIsNoDirectory();
        lastDirectory();
        nameIsNot0To63();
        dirHasAnEntryWithTheName();
        thereAre20Entries();
        thereAre20EntriesInOneDirectory();
        thereAre12Things();
        thereAre12ThingsWithOpenFiles();
        bothAreFull();
        leastNumberThatNoThingHas();
        leastNumberAfterCrash();
        withoutEntries();
        withoutCells();
        Due.end();
    }

    private static void dirIsNoDirectory() {
        new Rows("make: dir is no directory: BAD").row(Stores.oneOfEach())
            .each("make(?, 5, true) = BAD", Rows.NO_NUMBERS)
            .each("make(?, 5, false) = BAD", 2, 3, 4, 11)
            .each("make(?, 64, false) = BAD", -1, 2, 4, 12)
            .row("make(0, 5, false) = 4", "make(1, 5, true) = 5", "removeDir(1, 5) = 0", "make(5, 5, true) = BAD");
        new Rows("make: dir is no directory goes before full").row(Stores.bothFull())
            .each("make(?, 50, true) = BAD", -1, 2, 10, 12)
            .each("make(?, 0, true) = BAD", -1, 2, 10, 12);
    }

    private static void lastDirectory() {
        new Rows("make: dir is the last thing").row(Stores.things(12))
            .row("unlink(0, 9) = 0", "make(11, 63, false) = 10", "find(11, 63) = 10", "count(11) = 1", "count(0) = 10");
    }

    private static void nameIsNot0To63() {
        new Rows("make: name is not 0 .. 63: BAD").row("make(0, 1, true) = 1")
            .each("make(0, ?, false) = BAD", Rows.NO_NAMES)
            .each("make(1, ?, true) = BAD", Rows.NO_NAMES)
            .row("make(0, 0, false) = 2", "make(0, 63, true) = 3", "make(1, 0, true) = 4", "make(1, 63, false) = 5")
            .row("find(0, 0) = 2", "find(0, 63) = 3", "find(1, 0) = 4", "find(1, 63) = 5");
        new Rows("make: a bad name goes before full").row(Stores.bothFull())
            .each("make(11, ?, true) = BAD", Rows.NO_NAMES);
    }

    private static void dirHasAnEntryWithTheName() {
        new Rows("make: dir has an entry with the name: EXISTS")
            .row("make(0, 0, true) = 1", "make(0, 63, false) = 2", "link(1, 63, 2) = 2")
            .row("make(0, 0, true) = EXISTS", "make(0, 0, false) = EXISTS")
            .row("make(0, 63, true) = EXISTS", "make(0, 63, false) = EXISTS", "make(1, 63, true) = EXISTS")
            .row("make(1, 0, false) = 3", "make(1, 0, false) = EXISTS", "unlink(1, 0) = 0", "make(1, 0, true) = 3");
        new Rows("make: exists goes before 20 entries").row(Stores.entries(20))
            .row("make(0, 0, false) = EXISTS", "make(0, 1, true) = EXISTS", "make(2, 2, true) = EXISTS");
        new Rows("make: exists goes before 12 things").row(Stores.things(12))
            .row("make(0, 0, false) = EXISTS", "make(0, 10, true) = EXISTS");
        new Rows("make: exists goes before both").row(Stores.bothFull())
            .row("make(0, 0, true) = EXISTS", "make(11, 63, false) = EXISTS");
    }

    private static void thereAre20Entries() {
        new Rows("make: there are 20 entries: FULL").row(Stores.entries(19))
            .row("make(0, 63, true) = 3")
            .row("make(0, 62, false) = FULL", "make(0, 62, true) = FULL", "make(2, 62, false) = FULL")
            .row("make(3, 0, true) = FULL")
            .row("unlink(2, 18) = 17", "make(2, 18, false) = 4", "make(2, 17, false) = FULL")
            .row("removeDir(0, 63) = 0", "make(0, 63, false) = 3", "make(0, 62, false) = FULL")
            .row("rename(2, 18, 0, 63) = 1", "make(2, 18, true) = 3", "make(2, 17, false) = FULL");
    }

    private static void thereAre20EntriesInOneDirectory() {
        Rows rows = new Rows("make: there are 20 entries in one directory").row("make(0, 0, false) = 1");
        for (int name = 1; name < 19; name++) {
            rows.row("link(0, " + name + ", 1) = " + (name + 1));
        }
        rows.row("make(0, 19, true) = 2", "count(0) = 20", "make(0, 20, true) = FULL", "make(2, 20, true) = FULL");
    }

    private static void thereAre12Things() {
        new Rows("make: there are 12 things: FULL").row(Stores.things(11))
            .row("make(0, 60, true) = 11", "sync() = 12")
            .row("make(0, 61, false) = FULL", "make(0, 61, true) = FULL", "make(11, 0, false) = FULL")
            .row("unlink(0, 1) = 0", "make(11, 0, true) = 2", "make(11, 1, true) = FULL")
            .row("removeDir(0, 0) = 0", "make(11, 1, false) = 1", "make(11, 2, false) = FULL")
            .row("crash(0, 0) = 12", "make(0, 61, false) = FULL");
    }

    private static void thereAre12ThingsWithOpenFiles() {
        new Rows("make: an open file without links is one of 12 things").row(Stores.things(12))
            .row("open(3, 2) = 0", "open(0, 2) = 0", "unlink(0, 1) = 0", "count(0) = 10")
            .row("make(0, 1, false) = FULL", "make(0, 1, true) = FULL")
            .row("close(3) = 0", "make(0, 1, false) = FULL")
            .row("close(0) = 1", "make(0, 1, false) = 2", "make(0, 60, false) = FULL");
    }

    private static void bothAreFull() {
        new Rows("make: 20 entries and 12 things").row(Stores.bothFull())
            .row("make(0, 60, true) = FULL", "make(0, 60, false) = FULL", "make(11, 0, false) = FULL")
            .row("unlink(11, 55) = 9", "make(0, 60, false) = FULL")
            .row("link(11, 55, 2) = 10", "open(1, 4) = 0", "unlink(0, 3) = 0", "link(11, 54, 2) = 11")
            .row("make(0, 60, false) = FULL", "close(1) = 1", "make(0, 60, false) = FULL")
            .row("unlink(11, 54) = 10", "make(0, 60, false) = 4", "make(0, 61, false) = FULL");
    }

    private static void leastNumberThatNoThingHas() {
        new Rows("make: the least that no thing has").row(Stores.things(12))
            .row("removeDir(0, 10) = 0", "make(0, 10, false) = 11")
            .row("removeDir(0, 0) = 0", "unlink(0, 10) = 0", "unlink(0, 5) = 0")
            .row("make(0, 20, true) = 1", "make(0, 21, true) = 6", "make(0, 22, true) = 11", "make(0, 23, true) = FULL")
            .row("rename(0, 1, 0, 3) = 1", "make(0, 23, false) = 4")
            .row("rename(0, 20, 0, 22) = 1", "make(0, 24, false) = 11");
    }

    private static void leastNumberAfterCrash() {
        new Rows("make: the least that no thing has in the present")
            .row("make(0, 0, false) = 1", "make(0, 1, true) = 2", "make(0, 2, false) = 3", "sync() = 4")
            .row("unlink(0, 0) = 0", "removeDir(0, 1) = 0")
            .row("make(0, 3, true) = 1", "make(0, 4, false) = 2", "make(0, 5, false) = 4")
            .row("crash(0, 0) = 4", "kind(1) = 1", "kind(2) = 2", "kind(4) = 0", "make(0, 3, false) = 4");
    }

    private static void withoutEntries() {
        new Rows("make: a directory without entries, in a used number")
            .row("make(0, 0, true) = 1", "make(1, 0, false) = 2", "make(1, 63, true) = 3", "crash(0, 0) = 1")
            .row("make(0, 0, true) = 1", "count(1) = 0", "next(1, MIN) = NONE", "find(1, 0) = NONE", "find(1, 63) = NONE")
            .row("make(0, 1, false) = 2", "make(0, 2, true) = 3", "count(3) = 0")
            .row("removeDir(0, 2) = 0", "make(0, 2, false) = 3", "count(3) = BAD", "length(3) = 0");
    }

    private static void withoutCells() {
        Rows rows = new Rows("make: a file without cells, in a used number");
        rows.row("make(0, 0, false) = 1", "length(1) = 0", "read(1, 0) = 0", "sum(1) = 0", "fill(1, 0, 48, 7) = 48")
            .row("unlink(0, 0) = 0");
        empty(rows);
        rows.row("open(2, 1) = 0", "unlink(0, 0) = 0", "close(2) = 1");
        empty(rows);
        rows.row("make(0, 1, false) = 2", "rename(0, 1, 0, 0) = 1", "rename(0, 0, 0, 9) = 0");
        empty(rows);
        rows.row("crash(0, 0) = 1");
        empty(rows);
        rows.row("unlink(0, 0) = 0", "make(0, 0, true) = 1", "read(1, 0) = 0", "sum(1) = 0", "length(1) = BAD");
    }

    /** Makes file 1 anew, finds none of the old cells in it, and fills it. */
    private static void empty(Rows rows) {
        rows.row("make(0, 0, false) = 1", "length(1) = 0", "read(1, 0) = 0", "read(1, 47) = 0", "sum(1) = 0")
            .row("cut(1, 48) = 0", "sum(1) = 0", "fill(1, 0, 48, 7) = 48");
    }
}
