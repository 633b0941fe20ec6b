/** The edges of promises 20 to 25, sentence by sentence. */
public final class SavingEdgesTest {
    private static final int[] KINDS_THAT_SAVE_NOTHING = {0, 1, 3, 4};

    public static void main(String[] args) {
        syncFrom1To12Things();
        syncWithoutFilesThatHaveNoLinks();
        syncAgain();
        kindIsNot0To4();
        presentBecomesTheSavedOne();
        crashWithNothingSaved();
        crashTwice();
        nothingIsOpen();
        filesThatAreGoneComeBack();
        kind2SavesAsBySync();
        stepsAreAnyInt();
        thingsThereAreThen();
        fullStoreComesThrough();
        idleForAnyInt();
        noFaults();
        savedFind();
        savedFindRefuses();
        savedRead();
        savedReadOfNoCell();
        savedAnswersAsAfterACrash();
        Due.end();
    }

    private static void syncFrom1To12Things() {
        new Rows("sync: answers the number of things there are").row("sync() = 1")
            .row("make(0, 0, true) = 1", "sync() = 2", "make(1, 0, false) = 2", "sync() = 3", "link(0, 5, 2) = 2", "sync() = 3")
            .row("unlink(0, 5) = 1", "sync() = 3", "unlink(1, 0) = 0", "sync() = 2", "removeDir(0, 0) = 0", "sync() = 1");
        new Rows("sync: 12 things").row(Stores.things(12)).row("sync() = 12", "removeDir(0, 10) = 0", "sync() = 11");
    }

    private static void syncWithoutFilesThatHaveNoLinks() {
        new Rows("sync: without files that have no links; these stay in the present").row(Stores.things(12))
            .row("fill(2, 0, 48, 200) = 48", "fill(4, 0, 48, 400) = 48", "fill(6, 0, 48, 600) = 48", "sync() = 12")
            .row("open(0, 4) = 0", "open(3, 4) = 0", "unlink(0, 3) = 0", "savedFind(0, 3) = 4", "savedRead(4, 47) = 447")
            .row("sync() = 12", "savedFind(0, 3) = NONE", "savedRead(4, 0) = 0", "savedRead(4, 47) = 0")
            .row("savedRead(2, 47) = 247", "savedRead(6, 0) = 600")
            .row("kind(4) = 1", "links(4) = 0", "read(4, 47) = 447", "opened(0) = 4", "opened(3) = 4", "length(4) = 48")
            .row("crash(0, 0) = 11", "kind(4) = 0", "read(4, 0) = 0", "length(4) = BAD", "read(6, 0) = 600", "sum(4) = 0")
            .row("make(0, 3, false) = 4", "length(4) = 0", "cut(4, 48) = 0", "sum(4) = 0");
        new Rows("sync: the last thing has no links").row(Stores.things(11))
            .row("make(0, 60, false) = 11", "fill(11, 0, 48, 7) = 48", "open(2, 11) = 0", "unlink(0, 60) = 0", "sync() = 12")
            .row("savedRead(11, 47) = 0", "crash(3, 9) = 11", "kind(11) = 0", "kind(10) = 1");
        new Rows("sync: the files on either side of one without links").row("make(0, 0, false) = 1", "make(0, 1, false) = 2")
            .row("make(0, 2, false) = 3", "fill(1, 0, 48, 100) = 48", "fill(2, 0, 48, 200) = 48", "fill(3, 0, 48, 300) = 48")
            .row("open(0, 2) = 0", "unlink(0, 1) = 0", "sync() = 4", "savedRead(1, 0) = 100", "savedRead(1, 47) = 147")
            .row("savedRead(2, 0) = 0", "savedRead(2, 47) = 0", "savedRead(3, 0) = 300", "savedRead(3, 47) = 347")
            .row("crash(0, 0) = 3", "read(1, 47) = 147", "read(2, 0) = 0", "read(3, 0) = 300", "length(1) = 48", "length(3) = 48");
        new Rows("sync: a file that is open and has links is saved").row("make(0, 0, false) = 1", "fill(1, 0, 2, 5) = 2")
            .row("open(0, 1) = 0", "sync() = 2", "opened(0) = 1", "savedRead(1, 1) = 6", "crash(0, 0) = 2", "read(1, 1) = 6");
    }

    private static void syncAgain() {
        new Rows("sync: the saved state becomes the present one").row("make(0, 0, true) = 1", "make(1, 63, false) = 2")
            .row("fill(2, 0, 48, 5) = 48", "sync() = 3").unchanged("sync() = 3")
            .row("unlink(1, 63) = 0", "removeDir(0, 0) = 0", "make(0, 63, false) = 1", "fill(1, 0, 1, 8) = 1", "sync() = 2")
            .row("savedFind(0, 0) = NONE", "savedFind(1, 63) = BAD", "savedFind(0, 63) = 1", "savedRead(1, 0) = 8")
            .row("savedRead(2, 0) = 0", "crash(0, 0) = 2", "kind(2) = 0", "kind(1) = 1", "length(1) = 1");
    }

    private static void kindIsNot0To4() {
        new Rows("crash: kind is not 0 .. 4: BAD").row(Stores.oneOfEach()).row("sync() = 4", "fill(2, 0, 3, 5) = 3")
            .row("make(0, 5, true) = 4", "open(3, 2) = 0")
            .each("crash(?, 0) = BAD", Rows.MIN, Rows.MIN + 1, -2, -1, 5, 6, 64, Rows.MAX - 1, Rows.MAX)
            .each("crash(-1, ?) = BAD", Rows.ANY_INTS)
            .each("crash(5, ?) = BAD", Rows.ANY_INTS)
            .row("opened(0) = 3", "opened(3) = 2", "savedFind(0, 5) = NONE", "find(0, 5) = 4");
    }

    private static void presentBecomesTheSavedOne() {
        for (int kind : KINDS_THAT_SAVE_NOTHING) {
            new Rows("crash of kind " + kind + ": the present state becomes the saved one")
                .row("make(0, 0, true) = 1", "make(1, 63, false) = 2", "fill(2, 0, 3, 40) = 3", "link(0, 63, 2) = 2")
                .row("make(0, 5, true) = 3", "sync() = 4")
                .row("fill(2, 0, 48, 90) = 48", "unlink(0, 63) = 1", "make(0, 63, true) = 4", "rename(1, 63, 3, 0) = 0")
                .row("rename(0, 0, 3, 5) = 0", "open(2, 2) = 0", "make(3, 6, false) = 5", "open(0, 5) = 0")
                .row("crash(" + kind + ", 7) = 4", "find(0, 0) = 1", "find(1, 63) = 2", "find(0, 63) = 2", "find(0, 5) = 3")
                .row("count(0) = 3", "count(1) = 1", "count(3) = 0", "kind(4) = 0", "kind(5) = 0", "links(2) = 2")
                .row("length(2) = 3", "read(2, 2) = 42", "read(2, 3) = 0", "cut(2, 48) = 3", "sum(2) = 248", "faults() = 0");
        }
    }

    private static void crashWithNothingSaved() {
        for (int kind : KINDS_THAT_SAVE_NOTHING) {
            new Rows("crash of kind " + kind + ": in the beginning there is only the root in the saved state")
                .row("crash(" + kind + ", 0) = 1").row(Stores.bothFull()).row("open(0, 2) = 0", "fill(2, 0, 48, 1) = 48")
                .row("crash(" + kind + ", 0) = 1", "count(0) = 0", "kind(0) = 2", "kind(1) = 0", "kind(11) = 0")
                .row("opened(0) = NONE", "find(0, 0) = NONE", "make(0, 0, false) = 1", "length(1) = 0");
        }
        new Rows("crash of kind 2: a new object").row("crash(2, 0) = 1", "count(0) = 0");
    }

    private static void crashTwice() {
        for (int kind : KINDS_THAT_SAVE_NOTHING) {
            new Rows("crash of kind " + kind + ": once more").row(Stores.oneOfEach()).row("fill(2, 0, 3, 5) = 3", "sync() = 4")
                .row("crash(" + kind + ", 3) = 3")
                .unchanged("crash(" + kind + ", 3) = 3", "crash(0, 0) = 3", "crash(1, 0) = 3", "crash(2, 0) = 3", "crash(3, 0) = 3")
                .unchanged("crash(4, 0) = 3", "sync() = 3");
        }
    }

    private static void nothingIsOpen() {
        for (int kind = 0; kind < 5; kind++) {
            new Rows("crash of kind " + kind + ": nothing is open at any handle").row("make(0, 0, false) = 1", "sync() = 2")
                .each("open(?, 1) = 0", 0, 1, 2, 3)
                .row("crash(" + kind + ", 0) = 2")
                .each("opened(?) = NONE", 0, 1, 2, 3)
                .each("close(?) = NONE", 0, 1, 2, 3)
                .row("kind(1) = 1", "unlink(0, 0) = 0", "kind(1) = 0");
        }
    }

    private static void filesThatAreGoneComeBack() {
        new Rows("crash: all things have the numbers that they had at the latest saving").row(Stores.things(12))
            .row("fill(10, 0, 48, 6) = 48", "sync() = 12", "removeDir(0, 10) = 0", "removeDir(0, 0) = 0", "unlink(0, 9) = 0")
            .row("make(0, 20, false) = 1", "make(1, 0, true) = BAD", "make(0, 21, true) = 10", "make(10, 22, false) = 11")
            .row("crash(0, 0) = 12", "kind(1) = 2", "kind(10) = 1", "kind(11) = 2", "find(0, 0) = 1", "find(0, 9) = 10")
            .row("find(0, 10) = 11", "count(0) = 11", "count(11) = 0", "length(10) = 48", "read(10, 47) = 53", "links(10) = 1");
        new Rows("crash: a file that had links at the saving and is now open without has them again")
            .row("make(0, 0, false) = 1", "fill(1, 0, 1, 4) = 1", "sync() = 2", "open(0, 1) = 0", "unlink(0, 0) = 0")
            .row("fill(1, 0, 1, 5) = 1", "crash(0, 0) = 2", "links(1) = 1", "read(1, 0) = 4", "opened(0) = NONE");
    }

    private static void kind2SavesAsBySync() {
        new Rows("crash of kind 2: a saving took place wholly, as by sync").row(Stores.bothFull())
            .row("fill(2, 0, 48, 9) = 48", "fill(4, 0, 48, 7) = 48", "open(1, 4) = 0", "unlink(0, 3) = 0", "open(0, 2) = 0")
            .row("crash(2, 0) = 11", "kind(4) = 0", "opened(0) = NONE", "opened(1) = NONE", "count(11) = 9", "read(2, 47) = 56")
            .row("savedFind(11, 63) = 2", "savedRead(2, 47) = 56", "savedRead(4, 0) = 0")
            .row("unlink(11, 63) = 9", "crash(0, 0) = 11", "find(11, 63) = 2", "unlink(11, 63) = 9", "crash(2, 0) = 11")
            .row("crash(0, 0) = 11", "find(11, 63) = NONE");
    }

    private static void stepsAreAnyInt() {
        for (int kind = 0; kind < 5; kind++) {
            for (int steps : Rows.ANY_INTS) {
                new Rows("crash of kind " + kind + ": steps (any int) shows in no answer").row("make(0, 0, false) = 1", "sync() = 2")
                    .row("fill(1, 0, 2, 3) = 2", "make(0, 1, true) = 2")
                    .row("crash(" + kind + ", " + steps + ") = " + (kind == 2 ? 3 : 2))
                    .row("find(0, 1) = " + (kind == 2 ? 2 : "NONE"), "length(1) = " + (kind == 2 ? 2 : 0));
            }
        }
    }

    private static void thingsThereAreThen() {
        new Rows("crash: answers the number of things there are then").row("crash(0, 0) = 1").row(Stores.things(12))
            .row("crash(2, 0) = 12", "unlink(0, 1) = 0", "unlink(0, 3) = 0", "crash(0, 0) = 12", "unlink(0, 1) = 0")
            .row("crash(2, 0) = 11", "make(0, 1, true) = 2", "crash(1, 0) = 11");
        new Rows("crash: files without links are not among them").row(Stores.oneOfEach())
            .row("sync() = 4", "crash(0, 0) = 3").row("open(0, 2) = 0", "unlink(0, 2) = 0", "crash(2, 0) = 2");
    }

    private static void fullStoreComesThrough() {
        Rows rows = new Rows("crash: 20 entries and 12 things come through").row(Stores.bothFull());
        rows.each("fill(?, 0, 48, 5) = 48", 2, 4, 6, 8, 10).row("sync() = 12").each("cut(?, 0) = 48", 2, 4, 6, 8, 10)
            .row("unlink(0, 1) = 9", "removeDir(0, 0) = 0", "crash(4, 0) = 12", "make(0, 60, true) = FULL", "link(0, 60, 2) = FULL")
            .each("length(?) = 48", 2, 4, 6, 8, 10)
            .each("read(?, 47) = 52", 2, 4, 6, 8, 10)
            .row("links(2) = 10", "count(0) = 11", "count(11) = 9", "find(11, 55) = 2", "find(11, 63) = 2");
        Rows files = new Rows("crash: 11 files of 48 cells come through");
        for (int file = 1; file < 12; file++) {
            files.row("make(0, " + (52 + file) + ", false) = " + file, "fill(" + file + ", 0, 48, " + 100 * file + ") = 48");
        }
        files.row("sync() = 12");
        for (int file = 1; file < 12; file++) {
            files.row("cut(" + file + ", " + file % 3 + ") = 48");
        }
        files.row("read(11, 47) = 0", "savedRead(11, 0) = 1100", "savedRead(11, 47) = 1147", "crash(0, 0) = 12");
        for (int file = 1; file < 12; file++) {
            files.row("find(0, " + (52 + file) + ") = " + file, "length(" + file + ") = 48")
                .row("read(" + file + ", 0) = " + 100 * file, "read(" + file + ", 47) = " + (100 * file + 47));
        }
    }

    private static void idleForAnyInt() {
        Rows rows = new Rows("idle: some steps (any int), changes no answer of any call");
        idle(rows);
        idle(rows.row(Stores.oneOfEach()).row("fill(2, 0, 48, 1) = 48", "fill(3, 0, 2, 9) = 2", "sync() = 4"));
        idle(rows.row("cut(2, 5) = 48", "make(1, 0, true) = 4", "open(3, 2) = 0", "unlink(0, 2) = 0"));
        idle(rows.row("crash(0, 0) = 3"));
        idle(new Rows("idle: a full store").row(Stores.bothFull()).row("sync() = 12"));
    }

    private static void idle(Rows rows) {
        rows.each("idle(?)", Rows.ANY_INTS);
    }

    private static void noFaults() {
        new Rows("faults: always 0").row("faults() = 0").row(Stores.bothFull()).row("faults() = 0", "sync() = 12", "faults() = 0")
            .row("fill(2, 0, 48, MAX) = 48", "open(0, 2) = 0", "open(3, 4) = 0", "unlink(0, 3) = 0", "faults() = 0")
            .row("make(12, 64, true) = BAD", "rename(0, 0, 1, 0) = LOOP", "faults() = 0", "sync() = 12", "faults() = 0")
            .row("close(3) = 1", "faults() = 0", "crash(3, 1) = 11", "faults() = 0", "crash(5, 0) = BAD", "faults() = 0");
        Rows chain = new Rows("faults: a chain").row(Stores.chain()).row("faults() = 0", "crash(2, 0) = 12", "faults() = 0");
        chain.row("rename(10, 5, 0, 6) = 0", "rename(0, 5, 11, 6) = 0", "faults() = 0", "crash(0, 0) = 12", "faults() = 0");
    }

    private static void savedFind() {
        new Rows("savedFind: what find would answer after a crash of kind 0").row("savedFind(0, 0) = NONE", "savedFind(0, 63) = NONE")
            .row("make(0, 0, true) = 1", "make(1, 63, false) = 2", "savedFind(0, 0) = NONE", "savedFind(1, 63) = BAD")
            .row("sync() = 3", "savedFind(0, 0) = 1", "savedFind(1, 63) = 2", "savedFind(1, 0) = NONE", "savedFind(2, 0) = BAD")
            .row("unlink(1, 63) = 0", "removeDir(0, 0) = 0", "savedFind(0, 0) = 1", "savedFind(1, 63) = 2")
            .row("make(0, 9, false) = 1", "find(0, 9) = 1", "savedFind(0, 9) = NONE", "savedFind(1, 63) = 2", "find(1, 63) = BAD")
            .row("crash(0, 0) = 3", "find(0, 0) = 1", "find(1, 63) = 2", "savedFind(1, 63) = 2");
    }

    private static void savedFindRefuses() {
        new Rows("savedFind: BAD where find would be").row(Stores.oneOfEach()).row("make(1, 0, false) = 4", "make(1, 63, false) = 5")
            .row("sync() = 6", "make(0, 6, true) = 6")
            .each("savedFind(?, 2) = BAD", Rows.NO_NUMBERS)
            .each("savedFind(?, 2) = BAD", 2, 3, 4, 5, 6, 7, 11)
            .each("savedFind(0, ?) = BAD", Rows.NO_NAMES)
            .each("savedFind(1, ?) = BAD", Rows.NO_NAMES)
            .row("savedFind(0, 2) = 2", "savedFind(1, 0) = 4", "savedFind(1, 63) = 5", "savedFind(0, 3) = NONE");
        new Rows("savedFind: in the last thing").row(Stores.bothFull()).row("savedFind(11, 63) = BAD", "sync() = 12")
            .row("savedFind(11, 63) = 2", "savedFind(11, 55) = 2", "savedFind(11, 54) = NONE", "savedFind(10, 63) = BAD");
    }

    private static void savedRead() {
        new Rows("savedRead: what read would answer after a crash of kind 0").row("make(0, 0, false) = 1", "fill(1, 0, 48, MAX) = 48")
            .row("savedRead(1, 0) = 0", "sync() = 2", "savedRead(1, 0) = MAX", "savedRead(1, 1) = MIN")
            .row("savedRead(1, 47) = -2147483602", "cut(1, 0) = 48", "savedRead(1, 47) = -2147483602", "read(1, 47) = 0")
            .row("unlink(0, 0) = 0", "savedRead(1, 0) = MAX", "make(0, 0, true) = 1", "savedRead(1, 0) = MAX")
            .row("crash(0, 0) = 2", "read(1, 0) = MAX", "read(1, 47) = -2147483602");
    }

    private static void savedReadOfNoCell() {
        new Rows("savedRead: 0 where read would be").row(Stores.things(12)).row("fill(2, 0, 48, 200) = 48", "fill(4, 0, 3, 400) = 3")
            .row("fill(6, 0, 48, 600) = 48", "fill(10, 0, 48, 1000) = 48", "sync() = 12", "fill(4, 0, 48, 9) = 48")
            .each("savedRead(?, 0) = 0", Rows.NO_NUMBERS)
            .each("savedRead(?, 0) = 0", 0, 1, 3, 8, 11)
            .each("savedRead(4, ?) = 0", Rows.MIN, Rows.MIN + 1, -96, -48, -1, 3, 4, 47, 48, 49, 96, Rows.MAX - 1, Rows.MAX)
            .each("savedRead(2, ?) = 0", Rows.MIN, -1, 48, 49, Rows.MAX)
            .row("savedRead(4, 0) = 400", "savedRead(4, 2) = 402", "savedRead(2, 0) = 200", "savedRead(2, 47) = 247")
            .row("savedRead(10, 47) = 1047");
    }

    /** Both questions of the saved state, everywhere, against find and read of a twin after a crash of kind 0. */
    private static void savedAnswersAsAfterACrash() {
        ExtentFiles twin = changedAfterSaving();
        twin.crash(0, 0);
        ExtentFiles asked = changedAfterSaving();
        for (int dir = -1; dir <= 5; dir++) {
            for (int name = -1; name <= 64; name++) {
                Due.due("savedFind(" + dir + ", " + name + ")", asked.savedFind(dir, name), twin.find(dir, name));
            }
        }
        ExtentFiles readTwin = changedAfterSaving();
        readTwin.crash(0, 0);
        ExtentFiles readAsked = changedAfterSaving();
        for (int thing = -1; thing <= 5; thing++) {
            for (int at = -1; at <= 48; at++) {
                Due.due("savedRead(" + thing + ", " + at + ")", readAsked.savedRead(thing, at), readTwin.read(thing, at));
            }
        }
    }

    private static ExtentFiles changedAfterSaving() {
        ExtentFiles x = new ExtentFiles();
        x.make(0, 0, true);
        x.make(1, 63, false);
        x.make(1, 0, true);
        x.make(3, 7, false);
        x.fill(2, 0, 48, 20);
        x.fill(4, 5, 7, -3);
        x.open(0, 4);
        x.link(0, 63, 2);
        x.sync();
        x.rename(1, 0, 0, 1);
        x.unlink(3, 7);
        x.cut(2, 9);
        x.make(0, 30, false);
        x.fill(5, 0, 3, 1);
        return x;
    }
}
