/** Promises 20 to 25: sync, crash, idle, faults, savedFind, savedRead. */
public final class SavingTest {
    private static final int BAD = ExtentFiles.BAD;
    private static final int NONE = ExtentFiles.NONE;
    private static final int[] EDGES = {0, 1, -1, 58, Integer.MIN_VALUE, Integer.MAX_VALUE};

    public static void main(String[] args) {
        crashGoesBack();
        crashAfterSaving();
        crashRefuses();
        stepsDoNotShow();
        filesWithoutLinks();
        filesBesideOneWithoutLinks();
        goneFilesComeBack();
        cellsComeBack();
        treesComeBack();
        savedAnswersAreOfTheLatestSaving();
        savedAnswersRefuse();
        idleChangesNothing();
        faultsAreNone();
        Due.end();
    }

    private static void crashGoesBack() {
        for (int kind : new int[] {0, 1, 3, 4}) {
            String of = "crash of kind " + kind + ": ";
            ExtentFiles x = new ExtentFiles();
            x.make(0, 1, true);
            x.make(1, 2, false);
            x.fill(2, 0, 3, 40);
            Due.due(of + "sync", x.sync(), 3);
            x.make(0, 3, false);
            x.fill(2, 0, 5, 90);
            x.open(0, 2);
            x.open(3, 3);
            Due.due(of + "things", x.crash(kind, 7), 3);
            Due.due(of + "not saved", x.find(0, 3), NONE);
            Due.due(of + "not there", x.kind(3), 0);
            Due.due(of + "saved", x.find(1, 2), 2);
            Due.due(of + "saved length", x.length(2), 3);
            Due.due(of + "saved cells", x.read(2, 2), 42);
            Due.due(of + "nothing is open", x.opened(0), NONE);
            Due.due(of + "nothing is open at the last", x.opened(3), NONE);
            Due.due(of + "once more", x.crash(kind, 0), 3);
            Due.due(of + "the number is free", x.make(0, 9, false), 3);
        }
    }

    private static void crashAfterSaving() {
        ExtentFiles x = new ExtentFiles();
        x.make(0, 1, true);
        x.make(1, 2, false);
        x.fill(2, 0, 3, 40);
        x.open(2, 2);
        x.make(0, 3, false);
        x.open(1, 3);
        x.unlink(0, 3);
        Due.due("crash of kind 2: without the file that has no links", x.crash(2, 1), 3);
        Due.due("crash of kind 2: saved", x.read(2, 2), 42);
        Due.due("crash of kind 2: nothing is open", x.opened(2), NONE);
        Due.due("crash of kind 2: the file is gone", x.kind(3), 0);
        x.unlink(1, 2);
        Due.due("crash of kind 2: what was taken out stays out", x.crash(2, 1), 2);
        Due.due("crash of kind 0: it is saved so", x.crash(0, 1), 2);
    }

    private static void crashRefuses() {
        ExtentFiles x = new ExtentFiles();
        x.make(0, 1, false);
        x.open(0, 1);
        for (int kind : new int[] {-1, 5, 6, Integer.MIN_VALUE, Integer.MAX_VALUE}) {
            Due.due("crash(" + kind + ", 0)", x.crash(kind, 0), BAD);
        }
        Due.due("crash: refused, and the file is there", x.find(0, 1), 1);
        Due.due("crash: refused, and the file is open", x.opened(0), 1);
        Due.due("crash: refused, and nothing is saved", x.savedFind(0, 1), NONE);
    }

    private static void stepsDoNotShow() {
        for (int steps : EDGES) {
            for (int kind = 0; kind < 5; kind++) {
                ExtentFiles x = new ExtentFiles();
                x.make(0, 1, false);
                x.sync();
                x.make(0, 2, false);
                Due.due("crash(" + kind + ", " + steps + ")", x.crash(kind, steps), kind == 2 ? 3 : 2);
                Due.due("find after it", x.find(0, 2), kind == 2 ? 2 : NONE);
            }
        }
    }

    private static void filesWithoutLinks() {
        ExtentFiles x = new ExtentFiles();
        x.make(0, 1, false);
        x.fill(1, 0, 3, 40);
        x.sync();
        x.open(0, 1);
        x.unlink(0, 1);
        Due.due("savedRead: it had links at the latest saving", x.savedRead(1, 0), 40);
        Due.due("sync: counts the file without links", x.sync(), 2);
        Due.due("sync: the file stays in the present", x.read(1, 1), 41);
        Due.due("sync: and open", x.opened(0), 1);
        Due.due("savedRead: it is not in the saved state", x.savedRead(1, 0), 0);
        Due.due("crash: it is not there", x.crash(0, 0), 1);
        Due.due("crash: no thing", x.kind(1), 0);
        x.make(0, 1, false);
        x.cut(1, 3);
        Due.due("make: its cells are not there later", x.sum(1), 0);
    }

    private static void filesBesideOneWithoutLinks() {
        ExtentFiles x = new ExtentFiles();
        for (int i = 1; i < 4; i++) {
            x.make(0, i, false);
            x.fill(i, 0, 48, 100 * i);
        }
        x.open(0, 2);
        x.open(1, 2);
        x.unlink(0, 2);
        Due.due("sync: all four are there", x.sync(), 4);
        Due.due("savedRead: the last cell of the file before", x.savedRead(1, 47), 147);
        Due.due("savedRead: the first cell of the file after", x.savedRead(3, 0), 300);
        Due.due("crash: the two with links", x.crash(1, 0), 3);
        Due.due("crash: the first handle is free", x.opened(0), NONE);
        Due.due("crash: the second handle is free", x.opened(1), NONE);
        Due.due("crash: the cells of the file before", x.sum(1), 100 * (48 * 49 / 2) + 47 * 48 * 49 / 3);
        Due.due("crash: the cells of the file after", x.sum(3), 300 * (48 * 49 / 2) + 47 * 48 * 49 / 3);
    }

    private static void goneFilesComeBack() {
        ExtentFiles x = new ExtentFiles();
        x.make(0, 1, false);
        x.make(0, 2, false);
        x.link(0, 3, 2);
        x.fill(2, 0, 2, 6);
        x.sync();
        x.unlink(0, 1);
        x.unlink(0, 2);
        x.unlink(0, 3);
        x.make(0, 4, true);
        x.make(1, 5, true);
        Due.due("crash: all numbers are as they were", x.crash(0, 0), 3);
        Due.due("crash: the first is a file", x.kind(1), 1);
        Due.due("crash: the second has its links", x.links(2), 2);
        Due.due("crash: and its cells", x.sum(2), 6 + 2 * 7);
        Due.due("crash: the new names are out", x.count(0), 3);
    }

    private static void cellsComeBack() {
        ExtentFiles x = new ExtentFiles();
        for (int i = 1; i < 12; i++) {
            x.make(0, i, false);
            x.fill(i, 0, 48, 100 * i);
        }
        Due.due("sync: 12 things", x.sync(), 12);
        for (int i = 1; i < 12; i++) {
            x.cut(i, i % 3);
        }
        Due.due("crash: 12 things", x.crash(3, 5), 12);
        for (int i = 1; i < 12; i++) {
            Due.due("crash: length of " + i, x.length(i), 48);
            Due.due("crash: first of " + i, x.read(i, 0), 100 * i);
            Due.due("crash: last of " + i, x.read(i, 47), 100 * i + 47);
            Due.due("savedRead: last of " + i, x.savedRead(i, 47), 100 * i + 47);
        }
        x.cut(4, 2);
        x.sync();
        x.fill(4, 0, 10, 9);
        x.crash(1, 0);
        Due.due("crash: back to two cells", x.length(4), 2);
        x.cut(4, 10);
        Due.due("crash: new cells are 0", x.read(4, 5), 0);
    }

    private static void treesComeBack() {
        ExtentFiles x = new ExtentFiles();
        x.make(0, 1, true);
        x.make(1, 2, true);
        x.sync();
        x.rename(1, 2, 0, 2);
        x.rename(0, 1, 2, 1);
        x.crash(4, 0);
        Due.due("crash: the tree is as it was", x.find(1, 2), 2);
        Due.due("crash: so that this is a loop", x.rename(0, 1, 2, 1), ExtentFiles.LOOP);
        Due.due("crash: and this is not", x.rename(1, 2, 0, 2), 0);
    }

    private static void savedAnswersAreOfTheLatestSaving() {
        ExtentFiles x = new ExtentFiles();
        x.make(0, 1, true);
        x.make(1, 63, false);
        x.fill(2, 0, 3, 40);
        Due.due("savedFind: nothing is saved yet", x.savedFind(0, 1), NONE);
        Due.due("savedFind: no directory yet", x.savedFind(1, 63), BAD);
        Due.due("savedRead: no file yet", x.savedRead(2, 0), 0);
        x.sync();
        x.unlink(1, 63);
        x.removeDir(0, 1);
        x.make(0, 1, false);
        Due.due("savedFind: in the root", x.savedFind(0, 1), 1);
        Due.due("savedFind: in what was a directory", x.savedFind(1, 63), 2);
        Due.due("savedFind: none there", x.savedFind(1, 62), NONE);
        Due.due("savedRead: what was a file", x.savedRead(2, 2), 42);
        Due.due("savedFind: changes nothing", x.kind(1), 1);
        x.sync();
        Due.due("savedFind: a directory no longer", x.savedFind(1, 63), BAD);
        Due.due("savedRead: a file no longer", x.savedRead(2, 2), 0);
    }

    private static void savedAnswersRefuse() {
        ExtentFiles x = new ExtentFiles();
        x.make(0, 1, false);
        x.make(0, 2, true);
        x.fill(1, 0, 48, 1);
        x.sync();
        for (int thing : new int[] {-1, 1, 3, 11, 12, Integer.MIN_VALUE, Integer.MAX_VALUE}) {
            Due.due("savedFind(" + thing + ", 1)", x.savedFind(thing, 1), BAD);
        }
        for (int name : new int[] {-1, 64, Integer.MIN_VALUE, Integer.MAX_VALUE}) {
            Due.due("savedFind(0, " + name + ")", x.savedFind(0, name), BAD);
        }
        for (int thing : new int[] {-1, 0, 2, 3, 11, 12, Integer.MIN_VALUE, Integer.MAX_VALUE}) {
            Due.due("savedRead(" + thing + ", 1)", x.savedRead(thing, 1), 0);
        }
        for (int at : new int[] {-1, 48, 49, Integer.MIN_VALUE, Integer.MAX_VALUE}) {
            Due.due("savedRead(1, " + at + ")", x.savedRead(1, at), 0);
        }
    }

    private static void idleChangesNothing() {
        ExtentFiles x = new ExtentFiles();
        x.make(0, 1, false);
        x.fill(1, 0, 2, 5);
        x.sync();
        x.fill(1, 0, 2, 9);
        x.open(0, 1);
        x.unlink(0, 1);
        for (int steps : EDGES) {
            x.idle(steps);
            Due.due("idle(" + steps + "): opened", x.opened(0), 1);
            Due.due("idle(" + steps + "): read", x.read(1, 1), 10);
            Due.due("idle(" + steps + "): find", x.find(0, 1), NONE);
            Due.due("idle(" + steps + "): savedFind", x.savedFind(0, 1), 1);
            Due.due("idle(" + steps + "): savedRead", x.savedRead(1, 1), 6);
        }
    }

    private static void faultsAreNone() {
        ExtentFiles x = new ExtentFiles();
        Due.due("faults: new", x.faults(), 0);
        x.make(0, 0, false);
        x.fill(1, 0, 48, Integer.MAX_VALUE - 3);
        for (int i = 0; i < 10; i++) {
            x.make(i == 0 ? 0 : i + 1, 1, true);
            Due.due("faults: with directories", x.faults(), 0);
        }
        for (int name = 10; name < 19; name++) {
            x.link(11, name, 1);
        }
        Due.due("faults: full", x.faults(), 0);
        x.sync();
        x.open(0, 1);
        x.unlink(0, 0);
        for (int name = 10; name < 19; name++) {
            x.unlink(11, name);
        }
        Due.due("faults: with a file without links", x.faults(), 0);
        x.sync();
        Due.due("faults: and saved without it", x.faults(), 0);
        x.close(0);
        Due.due("faults: and gone", x.faults(), 0);
        x.rename(5, 1, 0, 7);
        x.crash(3, 9);
        Due.due("faults: after a crash", x.faults(), 0);
    }
}
