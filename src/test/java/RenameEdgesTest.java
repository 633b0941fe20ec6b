/** The edges of promise 6, sentence by sentence. */
public final class RenameEdgesTest {
    public static void main(String[] args) {
        dirIsNoDirectory();
        nameIsNot0To63();
        toIsNoDirectory();
        toNameIsNot0To63();
        badGoesBeforeAllElse();
        noEntryWithTheName();
        anEntryForTheSame();
        toIsTheMoved();
        toLiesBelowTheMoved();
        toDoesNotLieBelow();
        loopGoesBeforeTheReplaced();
        directoryOverFile();
        fileOverDirectory();
        overADirectoryWithEntries();
        overAnEmptyDirectory();
        overAFile();
        overAnOpenFile();
        toAFreeName();
        whenFull();
        Due.end();
    }

    private static void dirIsNoDirectory() {
        new Rows("rename: dir is no directory: BAD").row(Stores.oneOfEach())
            .each("rename(?, 2, 0, 5) = BAD", Rows.NO_NUMBERS)
            .each("rename(?, 2, 0, 5) = BAD", 2, 3, 4, 11);
    }

    private static void nameIsNot0To63() {
        new Rows("rename: name is not 0 .. 63: BAD").row("make(0, 0, false) = 1", "make(0, 63, true) = 2")
            .row("make(2, 0, false) = 3", "make(2, 63, true) = 4")
            .each("rename(0, ?, 0, 5) = BAD", Rows.NO_NAMES)
            .each("rename(2, ?, 0, 5) = BAD", Rows.NO_NAMES)
            .row("rename(0, 0, 0, 5) = 0", "rename(2, 63, 0, 6) = 0", "rename(2, 0, 0, 7) = 0", "rename(0, 63, 0, 8) = 0")
            .row("find(0, 5) = 1", "find(0, 6) = 4", "find(0, 7) = 3", "find(0, 8) = 2", "count(2) = 0", "count(0) = 4");
    }

    private static void toIsNoDirectory() {
        new Rows("rename: to is no directory: BAD").row(Stores.oneOfEach())
            .each("rename(0, 2, ?, 5) = BAD", Rows.NO_NUMBERS)
            .each("rename(0, 2, ?, 5) = BAD", 2, 3, 4, 11)
            .each("rename(0, 1, ?, 5) = BAD", 2, 3, 4, 11)
            .row("rename(0, 2, 1, 5) = 0");
    }

    private static void toNameIsNot0To63() {
        new Rows("rename: toName is not 0 .. 63: BAD").row(Stores.oneOfEach())
            .each("rename(0, 2, 0, ?) = BAD", Rows.NO_NAMES)
            .each("rename(0, 2, 1, ?) = BAD", Rows.NO_NAMES)
            .row("rename(0, 2, 1, 0) = 0", "find(1, 0) = 2", "rename(1, 0, 1, 63) = 0", "find(1, 63) = 2", "count(1) = 1");
    }

    private static void badGoesBeforeAllElse() {
        new Rows("rename: BAD goes before NONE").row(Stores.oneOfEach())
            .each("rename(0, 9, ?, 5) = BAD", -1, 2, 3, 4, 11, 12)
            .each("rename(0, 9, 0, ?) = BAD", -1, 64)
            .row("rename(0, 9, 0, 9) = NONE");
        new Rows("rename: BAD goes before LOOP").row(Stores.oneOfEach())
            .each("rename(0, 1, 1, ?) = BAD", -1, 64)
            .row("rename(0, 1, 1, 0) = LOOP");
    }

    private static void noEntryWithTheName() {
        new Rows("rename: dir has no entry with the name: NONE")
            .row("rename(0, 0, 0, 0) = NONE", "rename(0, 63, 0, 0) = NONE")
            .row("make(0, 5, false) = 1", "make(0, 6, true) = 2", "make(2, 7, false) = 3")
            .each("rename(0, ?, 0, 5) = NONE", 0, 4, 7, 63)
            .each("rename(0, ?, 2, 7) = NONE", 0, 4, 7, 63)
            .each("rename(2, ?, 2, 9) = NONE", 5, 6, 8)
            .row("rename(2, 9, 2, 9) = NONE", "rename(2, 9, 0, 6) = NONE")
            .row("rename(0, 5, 0, 4) = 0", "rename(0, 5, 0, 4) = NONE");
    }

    private static void anEntryForTheSame() {
        new Rows("rename: to has an entry with toName for M too, nothing changes")
            .row("make(0, 0, false) = 1", "make(0, 63, true) = 2", "link(2, 63, 1) = 2", "link(0, 7, 1) = 3")
            .unchanged("rename(0, 0, 0, 0) = 0", "rename(0, 0, 2, 63) = 0", "rename(2, 63, 0, 0) = 0")
            .unchanged("rename(0, 0, 0, 7) = 0", "rename(2, 63, 2, 63) = 0", "rename(0, 63, 0, 63) = 0")
            .row("open(0, 1) = 0").unchanged("rename(0, 7, 0, 0) = 0");
        new Rows("rename: the same entry with 20 entries and 12 things").row(Stores.bothFull())
            .unchanged("rename(0, 0, 0, 0) = 0", "rename(11, 63, 11, 55) = 0", "rename(11, 63, 0, 1) = 0")
            .unchanged("rename(0, 10, 0, 10) = 0");
    }

    private static void toIsTheMoved() {
        new Rows("rename: M is a directory, and to is M: LOOP").row("make(0, 0, true) = 1", "rename(0, 0, 1, 0) = LOOP")
            .row("rename(0, 0, 1, 63) = LOOP", "make(1, 5, true) = 2", "rename(1, 5, 2, 5) = LOOP");
        new Rows("rename: to is M, the last thing").row(Stores.things(12)).row("rename(0, 10, 11, 0) = LOOP");
    }

    private static void toLiesBelowTheMoved() {
        Rows rows = new Rows("rename: M is a directory, and to lies below M: LOOP").row(Stores.chain());
        for (int moved = 1; moved < 12; moved++) {
            for (int to = moved; to < 12; to++) {
                rows.row("rename(" + (moved - 1) + ", 5, " + to + ", 6) = LOOP");
            }
        }
        new Rows("rename: to lies below M, with a lesser number")
            .row("make(0, 1, true) = 1", "make(0, 2, true) = 2", "make(0, 3, true) = 3", "rename(0, 2, 3, 2) = 0")
            .row("rename(0, 1, 2, 1) = 0", "rename(0, 3, 1, 0) = LOOP", "rename(0, 3, 2, 0) = LOOP")
            .row("rename(3, 2, 1, 0) = LOOP", "rename(2, 1, 0, 1) = 0", "rename(0, 3, 1, 0) = 0")
            .row("rename(0, 1, 2, 0) = LOOP", "rename(0, 1, 3, 0) = LOOP");
        new Rows("rename: a crash brings the older tree back")
            .row("make(0, 1, true) = 1", "make(1, 2, true) = 2", "sync() = 3", "rename(1, 2, 0, 2) = 0")
            .row("rename(0, 1, 2, 1) = 0", "rename(0, 2, 1, 0) = LOOP", "crash(1, 0) = 3", "rename(0, 1, 2, 0) = LOOP");
    }

    private static void toDoesNotLieBelow() {
        new Rows("rename: to is above M, or M's own directory, or beside it").row(Stores.chain())
            .row("rename(10, 5, 10, 6) = 0", "rename(10, 6, 0, 6) = 0", "rename(0, 6, 10, 5) = 0")
            .row("rename(9, 5, 0, 6) = 0", "rename(0, 5, 11, 63) = 0", "find(11, 63) = 1", "find(0, 6) = 10")
            .row("count(0) = 1", "rename(0, 6, 9, 0) = LOOP", "rename(0, 6, 1, 0) = LOOP");
        new Rows("rename: a file goes anywhere").row("make(0, 1, true) = 1", "make(1, 2, true) = 2", "make(0, 3, false) = 3")
            .row("rename(0, 3, 2, 3) = 0", "rename(2, 3, 1, 3) = 0", "rename(1, 3, 0, 1) = IS_DIR", "find(1, 3) = 3");
    }

    private static void loopGoesBeforeTheReplaced() {
        new Rows("rename: LOOP goes before NOT_DIR and NOT_EMPTY, and before an X that could go")
            .row("make(0, 1, true) = 1", "make(1, 2, true) = 2", "make(1, 3, false) = 3", "make(2, 4, false) = 4")
            .row("make(2, 5, true) = 5", "make(1, 6, true) = 6")
            .row("rename(0, 1, 1, 3) = LOOP", "rename(0, 1, 2, 4) = LOOP", "rename(0, 1, 1, 2) = LOOP")
            .row("rename(0, 1, 2, 5) = LOOP", "rename(0, 1, 1, 6) = LOOP", "rename(1, 2, 2, 4) = LOOP")
            .row("rename(1, 2, 2, 5) = LOOP");
    }

    private static void directoryOverFile() {
        new Rows("rename: M is a directory and X a file: NOT_DIR")
            .row("make(0, 0, true) = 1", "make(0, 63, false) = 2", "make(1, 0, true) = 3", "make(3, 5, false) = 4")
            .row("rename(0, 0, 0, 63) = NOT_DIR", "rename(1, 0, 0, 63) = NOT_DIR", "link(1, 7, 2) = 2")
            .row("rename(1, 0, 1, 7) = NOT_DIR", "open(0, 2) = 0", "rename(1, 0, 0, 63) = NOT_DIR");
    }

    private static void fileOverDirectory() {
        new Rows("rename: M is a file and X a directory: IS_DIR")
            .row("make(0, 0, false) = 1", "make(0, 63, true) = 2", "make(0, 5, true) = 3", "make(3, 0, false) = 4")
            .row("rename(0, 0, 0, 63) = IS_DIR", "rename(3, 0, 0, 63) = IS_DIR", "open(0, 1) = 0")
            .row("rename(0, 0, 0, 63) = IS_DIR");
        new Rows("rename: IS_DIR goes before NOT_EMPTY")
            .row("make(0, 0, false) = 1", "make(0, 1, true) = 2", "make(2, 0, false) = 3")
            .row("rename(0, 0, 0, 1) = IS_DIR", "rename(2, 0, 0, 1) = IS_DIR");
    }

    private static void overADirectoryWithEntries() {
        new Rows("rename: X is a directory with entries: NOT_EMPTY")
            .row("make(0, 0, true) = 1", "make(0, 1, true) = 2", "make(2, 0, false) = 3", "rename(0, 0, 0, 1) = NOT_EMPTY")
            .row("rename(2, 0, 2, 63) = 0", "rename(0, 0, 0, 1) = NOT_EMPTY")
            .row("make(1, 5, true) = 4", "rename(0, 0, 0, 1) = NOT_EMPTY", "rename(1, 5, 0, 1) = NOT_EMPTY")
            .row("unlink(2, 63) = 0", "rename(0, 0, 0, 1) = 1", "find(1, 5) = 4");
        new Rows("rename: X is the directory that M is in").row(Stores.chain())
            .row("rename(1, 5, 0, 5) = NOT_EMPTY", "rename(10, 5, 9, 5) = NOT_EMPTY", "rename(10, 5, 0, 5) = NOT_EMPTY");
    }

    private static void overAnEmptyDirectory() {
        new Rows("rename: X, a directory without entries, is gone: 1").row(Stores.things(12))
            .row("rename(0, 0, 0, 10) = 1", "kind(11) = 0", "links(11) = BAD", "find(0, 10) = 1", "find(0, 0) = NONE")
            .row("links(1) = 1", "count(0) = 10", "sync() = 11")
            .row("make(1, 63, false) = 11", "rename(0, 10, 0, 8) = 1", "find(0, 8) = 1", "find(1, 63) = 11", "kind(9) = 0")
            .row("make(0, 0, true) = 9", "count(9) = 0", "rename(0, 0, 1, 0) = 0", "rename(1, 0, 0, 6) = 1", "find(0, 6) = 9");
    }

    private static void overAFile() {
        new Rows("rename: X, a file, loses its entry as by unlink: 1")
            .row("make(0, 0, false) = 1", "make(0, 63, false) = 2", "make(0, 5, true) = 3", "fill(2, 0, 48, 1) = 48")
            .row("fill(1, 0, 2, 70) = 2", "link(3, 0, 2) = 2", "link(3, 63, 1) = 2")
            .row("rename(0, 0, 0, 63) = 1", "links(2) = 1", "links(1) = 2", "find(0, 63) = 1", "find(0, 0) = NONE")
            .row("read(2, 47) = 48", "rename(0, 63, 3, 0) = 1", "kind(2) = 0", "links(2) = BAD", "length(2) = BAD")
            .row("links(1) = 2", "find(3, 0) = 1", "find(3, 63) = 1", "count(0) = 1", "count(3) = 2", "sum(1) = 212")
            .row("make(0, 0, false) = 2", "length(2) = 0");
        new Rows("rename: X is the last thing").row(Stores.things(11)).row("make(0, 63, false) = 11", "fill(11, 47, 1, 5) = 48")
            .row("rename(0, 1, 0, 63) = 1", "kind(11) = 0", "kind(2) = 1", "find(0, 63) = 2", "make(0, 1, false) = 11")
            .row("rename(0, 1, 0, 3) = 1", "find(0, 3) = 11", "kind(4) = 0", "links(11) = 1");
    }

    private static void overAnOpenFile() {
        new Rows("rename: X, open and with no links then, stays")
            .row("make(0, 0, false) = 1", "make(0, 1, false) = 2", "fill(2, 0, 3, 9) = 3", "open(3, 2) = 0")
            .row("rename(0, 0, 0, 1) = 1", "kind(2) = 1", "links(2) = 0", "read(2, 2) = 11", "opened(3) = 2")
            .row("link(0, 5, 2) = BAD", "sync() = 3", "close(3) = 1", "kind(2) = 0", "sync() = 2");
        new Rows("rename: M is open").row("make(0, 0, false) = 1", "make(0, 1, false) = 2", "open(0, 1) = 0")
            .row("rename(0, 0, 0, 1) = 1", "opened(0) = 1", "kind(2) = 0", "close(0) = 0", "kind(1) = 1");
    }

    private static void toAFreeName() {
        new Rows("rename: no X: 0").row(Stores.things(12))
            .row("rename(0, 1, 0, 63) = 0", "find(0, 1) = NONE", "find(0, 63) = 2", "rename(0, 63, 11, 63) = 0")
            .row("find(11, 63) = 2", "find(0, 63) = NONE", "links(2) = 1", "rename(0, 10, 1, 0) = 0", "find(1, 0) = 11")
            .row("find(11, 63) = 2", "count(0) = 9", "rename(1, 0, 0, 0) = NOT_EMPTY", "rename(11, 63, 11, 0) = 0")
            .row("count(11) = 1", "next(11, MIN) = 0", "faults() = 0");
    }

    private static void whenFull() {
        new Rows("rename: with 20 entries and 12 things").row(Stores.bothFull())
            .row("rename(0, 0, 0, 63) = 0", "rename(11, 63, 9, 0) = 0", "make(0, 0, true) = FULL", "link(0, 0, 2) = FULL")
            .row("rename(0, 63, 11, 0) = 0", "find(11, 0) = 1", "links(2) = 10", "sync() = 12")
            .row("rename(0, 3, 0, 1) = 1", "links(2) = 9", "link(0, 1, 2) = EXISTS", "link(0, 3, 2) = 10")
            .row("link(0, 50, 2) = FULL", "make(0, 50, true) = FULL");
    }
}
