/** Promise 6: rename. */
public final class RenameTest {
    private static final int BAD = ExtentFiles.BAD;
    private static final int MIN = Integer.MIN_VALUE;
    private static final int MAX = Integer.MAX_VALUE;

    public static void main(String[] args) {
        moves();
        replacesFiles();
        replacesDirectories();
        leavesTheSameThing();
        refusesBadArguments();
        refusesLoops();
        refusesDeepLoop();
        refusesKinds();
        worksWhenFull();
        Due.end();
    }

    private static void moves() {
        ExtentFiles x = new ExtentFiles();
        x.make(0, 1, true);
        x.make(0, 2, false);
        x.make(1, 3, true);
        Due.due("rename: within a directory", x.rename(0, 2, 0, 63), 0);
        Due.due("rename: the new entry", x.find(0, 63), 2);
        Due.due("rename: the old entry", x.find(0, 2), ExtentFiles.NONE);
        Due.due("rename: down", x.rename(0, 63, 3, 0), 0);
        Due.due("rename: found below", x.find(3, 0), 2);
        Due.due("rename: links stay", x.links(2), 1);
        Due.due("rename: a directory up", x.rename(1, 3, 0, 4), 0);
        Due.due("rename: with what it has", x.find(3, 0), 2);
        Due.due("rename: the directory under its brother", x.rename(0, 1, 3, 1), 0);
        Due.due("rename: the root has one entry", x.count(0), 1);
        Due.due("rename: the directory it left is free to go", x.rename(3, 1, 0, 1), 0);
        Due.due("rename: removes as any other", x.removeDir(0, 1), 0);
    }

    private static void replacesFiles() {
        ExtentFiles x = new ExtentFiles();
        x.make(0, 1, false);
        x.make(0, 2, false);
        x.make(0, 3, false);
        x.make(0, 4, false);
        x.fill(1, 0, 2, 70);
        x.fill(2, 0, 2, 80);
        Due.due("rename: over the last link", x.rename(0, 1, 0, 2), 1);
        Due.due("rename: it is gone", x.kind(2), 0);
        Due.due("rename: the name is the moved one's", x.find(0, 2), 1);
        Due.due("rename: with its cells", x.read(1, 1), 71);
        Due.due("rename: the old name is free", x.find(0, 1), ExtentFiles.NONE);
        x.link(0, 30, 3);
        Due.due("rename: over one of two links", x.rename(0, 2, 0, 3), 1);
        Due.due("rename: the other link stays", x.links(3), 1);
        x.open(0, 4);
        Due.due("rename: over the last link of an open file", x.rename(0, 3, 0, 4), 1);
        Due.due("rename: the open file is there", x.links(4), 0);
        Due.due("rename: until it is closed", x.close(0), 1);
    }

    private static void replacesDirectories() {
        ExtentFiles x = new ExtentFiles();
        x.make(0, 1, true);
        x.make(0, 2, true);
        x.make(1, 3, false);
        Due.due("rename: over an empty directory", x.rename(0, 1, 0, 2), 1);
        Due.due("rename: that one is gone", x.kind(2), 0);
        Due.due("rename: what it has comes with it", x.find(1, 3), 3);
        Due.due("rename: two things and the root", x.sync(), 3);
        x.make(1, 4, true);
        Due.due("rename: a directory over the one that has it", x.rename(1, 4, 0, 2), ExtentFiles.NOT_EMPTY);
    }

    private static void leavesTheSameThing() {
        ExtentFiles x = new ExtentFiles();
        x.make(0, 1, false);
        x.make(0, 2, true);
        x.link(2, 5, 1);
        Due.due("rename: to the same entry", x.rename(0, 1, 0, 1), 0);
        Due.due("rename: to another entry of the file", x.rename(0, 1, 2, 5), 0);
        Due.due("rename: both entries stay", x.links(1), 2);
        Due.due("rename: the first", x.find(0, 1), 1);
        Due.due("rename: the second", x.find(2, 5), 1);
        Due.due("rename: a directory to its own entry", x.rename(0, 2, 0, 2), 0);
        Due.due("rename: a directory with entries stays", x.find(2, 5), 1);
    }

    private static void refusesBadArguments() {
        ExtentFiles x = new ExtentFiles();
        x.make(0, 1, false);
        x.make(0, 2, true);
        for (int dir : new int[] {-1, 1, 3, 12, MIN, MAX}) {
            Due.due("rename(" + dir + ", 1, 0, 5)", x.rename(dir, 1, 0, 5), BAD);
            Due.due("rename(0, 1, " + dir + ", 5)", x.rename(0, 1, dir, 5), BAD);
            Due.due("rename(0, 9, " + dir + ", 5)", x.rename(0, 9, dir, 5), BAD);
        }
        for (int name : new int[] {-1, 64, MIN, MAX}) {
            Due.due("rename(0, " + name + ", 0, 5)", x.rename(0, name, 0, 5), BAD);
            Due.due("rename(0, 1, 0, " + name + ")", x.rename(0, 1, 0, name), BAD);
            Due.due("rename(0, 9, 0, " + name + ")", x.rename(0, 9, 0, name), BAD);
        }
        Due.due("rename: no such entry", x.rename(0, 9, 0, 5), ExtentFiles.NONE);
        Due.due("rename: no such entry, twice the same", x.rename(0, 9, 0, 9), ExtentFiles.NONE);
        Due.due("rename: no such entry over a file", x.rename(0, 9, 0, 1), ExtentFiles.NONE);
        Due.due("rename: all is as before", x.next(0, 1), 2);
    }

    private static void refusesLoops() {
        ExtentFiles x = new ExtentFiles();
        x.make(0, 1, true);
        x.make(1, 2, true);
        x.make(2, 3, true);
        x.make(2, 4, false);
        x.make(0, 5, true);
        Due.due("rename: into itself", x.rename(0, 1, 1, 9), ExtentFiles.LOOP);
        Due.due("rename: below itself", x.rename(0, 1, 2, 9), ExtentFiles.LOOP);
        Due.due("rename: two below itself", x.rename(0, 1, 3, 9), ExtentFiles.LOOP);
        Due.due("rename: loop goes before a file in the way", x.rename(0, 1, 2, 4), ExtentFiles.LOOP);
        Due.due("rename: loop goes before a full directory in the way", x.rename(0, 1, 1, 2), ExtentFiles.LOOP);
        Due.due("rename: an empty directory into itself", x.rename(0, 5, 5, 0), ExtentFiles.LOOP);
        Due.due("rename: a file below is no loop", x.rename(2, 4, 3, 0), 0);
        Due.due("rename: beside is no loop", x.rename(0, 1, 5, 1), 0);
        Due.due("rename: now 1 lies below 5", x.rename(0, 5, 3, 9), ExtentFiles.LOOP);
        Due.due("rename: up again", x.rename(1, 2, 0, 2), 0);
        Due.due("rename: and the other way round", x.rename(0, 5, 3, 9), 0);
    }

    private static void refusesDeepLoop() {
        ExtentFiles x = new ExtentFiles();
        for (int i = 0; i < 11; i++) {
            Due.due("rename: a chain of directories", x.make(i, 0, true), i + 1);
        }
        for (int i = 1; i < 12; i++) {
            Due.due("rename: " + i + " to the chain's end", x.rename(i - 1, 0, 11, 1), ExtentFiles.LOOP);
        }
        Due.due("rename: the chain's end to the root", x.rename(10, 0, 0, 1), 0);
        Due.due("rename: the rest below it", x.rename(0, 0, 11, 0), 0);
        Due.due("rename: the root has one entry", x.count(0), 1);
    }

    private static void refusesKinds() {
        ExtentFiles x = new ExtentFiles();
        x.make(0, 1, true);
        x.make(0, 2, false);
        x.make(0, 3, true);
        x.make(1, 4, false);
        Due.due("rename: a directory over a file", x.rename(0, 1, 0, 2), ExtentFiles.NOT_DIR);
        Due.due("rename: a file over an empty directory", x.rename(0, 2, 0, 3), ExtentFiles.IS_DIR);
        Due.due("rename: a file over a directory with entries", x.rename(0, 2, 0, 1), ExtentFiles.IS_DIR);
        Due.due("rename: a file over the directory it is in", x.rename(1, 4, 0, 1), ExtentFiles.IS_DIR);
        Due.due("rename: a directory over one with entries", x.rename(0, 3, 0, 1), ExtentFiles.NOT_EMPTY);
        Due.due("rename: all three are there", x.count(0), 3);
    }

    private static void worksWhenFull() {
        ExtentFiles x = new ExtentFiles();
        for (int i = 1; i < 12; i++) {
            x.make(0, i, false);
        }
        for (int name = 12; name < 21; name++) {
            x.link(0, name, 1);
        }
        Due.due("rename: with 20 entries and 12 things", x.rename(0, 20, 0, 63), 0);
        Due.due("rename: still 20 entries", x.count(0), 20);
        Due.due("rename: over a file", x.rename(0, 63, 0, 11), 1);
        Due.due("rename: 19 entries", x.count(0), 19);
    }
}
