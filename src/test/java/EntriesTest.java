/** Promises 2 to 5: make, link, unlink, removeDir. */
public final class EntriesTest {
    private static final int BAD = ExtentFiles.BAD;
    private static final int MIN = Integer.MIN_VALUE;
    private static final int MAX = Integer.MAX_VALUE;

    public static void main(String[] args) {
        makes();
        makeRefuses();
        makeIsFullByThings();
        makeIsFullByEntries();
        openFilesCountAsThings();
        links();
        linkRefuses();
        linkIsFull();
        unlinks();
        unlinkRefuses();
        removesDirectories();
        removeDirRefuses();
        Due.end();
    }

    private static void makes() {
        ExtentFiles x = new ExtentFiles();
        Due.due("make: the first thing", x.make(0, 0, true), 1);
        Due.due("make: the last name", x.make(0, 63, false), 2);
        Due.due("make: the same name elsewhere", x.make(1, 63, false), 3);
        Due.due("make: a directory in a directory", x.make(1, 0, true), 4);
        Due.due("make: kind of the directory", x.kind(1), 2);
        Due.due("make: kind of the file", x.kind(2), 1);
        Due.due("make: the directory has no entries", x.count(4), 0);
        Due.due("make: the file has no cells", x.length(2), 0);
        Due.due("make: the entry", x.find(1, 63), 3);
        Due.due("make: one link", x.links(3), 1);
        Due.due("make: a directory's entry", x.links(4), 1);
        x.fill(2, 0, 5, 9);
        x.unlink(0, 63);
        Due.due("make: the least free number", x.make(0, 5, false), 2);
        Due.due("make: no cells of the file that had the number", x.length(2), 0);
        x.cut(2, 5);
        Due.due("make: nor later", x.sum(2), 0);
        Due.due("make: the number after", x.make(0, 6, true), 5);
    }

    private static void makeRefuses() {
        ExtentFiles x = new ExtentFiles();
        x.make(0, 1, true);
        x.make(0, 2, false);
        for (int dir : new int[] {-1, 2, 3, 11, 12, 64, MIN, MAX}) {
            Due.due("make(" + dir + ", 5, false)", x.make(dir, 5, false), BAD);
        }
        for (int name : new int[] {-1, 64, MIN, MAX}) {
            Due.due("make(1, " + name + ", true)", x.make(1, name, true), BAD);
        }
        Due.due("make: name of a directory", x.make(0, 1, false), ExtentFiles.EXISTS);
        Due.due("make: name of a file", x.make(0, 2, true), ExtentFiles.EXISTS);
        Due.due("make: nothing was made", x.sync(), 3);
    }

    private static void makeIsFullByThings() {
        ExtentFiles x = new ExtentFiles();
        for (int i = 1; i < 12; i++) {
            Due.due("make: thing " + i, x.make(0, i, i % 2 == 0), i);
        }
        Due.due("make: a 13th thing", x.make(0, 20, false), ExtentFiles.FULL);
        Due.due("make: a 13th thing, a directory", x.make(2, 20, true), ExtentFiles.FULL);
        Due.due("make: exists goes before full", x.make(0, 3, false), ExtentFiles.EXISTS);
        Due.due("make: bad goes before full", x.make(3, 3, false), BAD);
        Due.due("make: no entry was left behind", x.count(0), 11);
        x.removeDir(0, 4);
        x.unlink(0, 9);
        Due.due("make: the least free of two", x.make(0, 20, false), 4);
        Due.due("make: the other", x.make(0, 21, false), 9);
        Due.due("make: full again", x.make(0, 22, false), ExtentFiles.FULL);
    }

    private static void makeIsFullByEntries() {
        ExtentFiles x = new ExtentFiles();
        x.make(0, 0, false);
        x.make(0, 1, true);
        for (int name = 2; name < 11; name++) {
            Due.due("make: a link beside it", x.link(0, name, 1), name);
        }
        for (int name = 20; name < 29; name++) {
            Due.due("make: a link in the other directory", x.link(2, name, 1), name - 9);
        }
        Due.due("make: a 21st entry", x.make(0, 50, false), ExtentFiles.FULL);
        Due.due("make: a 21st entry elsewhere", x.make(2, 50, true), ExtentFiles.FULL);
        Due.due("make: exists goes before full entries", x.make(2, 20, true), ExtentFiles.EXISTS);
        x.unlink(0, 0);
        Due.due("make: the 20th entry", x.make(0, 50, false), 3);
        Due.due("make: full of entries again", x.make(0, 51, false), ExtentFiles.FULL);
    }

    private static void openFilesCountAsThings() {
        ExtentFiles x = new ExtentFiles();
        for (int i = 1; i < 12; i++) {
            x.make(0, i, false);
        }
        x.open(1, 7);
        Due.due("make: unlink an open file", x.unlink(0, 7), 0);
        Due.due("make: an open file keeps its number", x.make(0, 7, false), ExtentFiles.FULL);
        Due.due("make: close it", x.close(1), 1);
        Due.due("make: its number is free", x.make(0, 7, false), 7);
    }

    private static void links() {
        ExtentFiles x = new ExtentFiles();
        x.make(0, 0, false);
        x.make(0, 1, true);
        Due.due("link: in the same directory", x.link(0, 63, 1), 2);
        Due.due("link: in another", x.link(2, 0, 1), 3);
        Due.due("link: find", x.find(2, 0), 1);
        Due.due("link: links", x.links(1), 3);
        x.fill(1, 0, 1, 8);
        Due.due("link: no new thing", x.sync(), 3);
        Due.due("link: open or not, it is the same", x.open(0, 1), 0);
        Due.due("link: of an open file", x.link(2, 1, 1), 4);
    }

    private static void linkRefuses() {
        ExtentFiles x = new ExtentFiles();
        x.make(0, 0, false);
        x.make(0, 1, true);
        x.make(0, 2, false);
        x.open(0, 3);
        x.unlink(0, 2);
        for (int dir : new int[] {-1, 1, 3, 4, 12, MIN, MAX}) {
            Due.due("link(" + dir + ", 5, 1)", x.link(dir, 5, 1), BAD);
        }
        for (int name : new int[] {-1, 64, MIN, MAX}) {
            Due.due("link(0, " + name + ", 1)", x.link(0, name, 1), BAD);
        }
        for (int thing : new int[] {-1, 0, 2, 4, 12, MIN, MAX}) {
            Due.due("link(0, 5, " + thing + ")", x.link(0, 5, thing), BAD);
        }
        Due.due("link: an open file without links", x.link(0, 5, 3), BAD);
        Due.due("link: without links goes before exists", x.link(0, 0, 3), BAD);
        Due.due("link: no file goes before exists", x.link(0, 0, 2), BAD);
        Due.due("link: the name is given to the file itself", x.link(0, 0, 1), ExtentFiles.EXISTS);
        Due.due("link: the name is given to a directory", x.link(0, 1, 1), ExtentFiles.EXISTS);
        Due.due("link: nothing was linked", x.links(1), 1);
    }

    private static void linkIsFull() {
        ExtentFiles x = new ExtentFiles();
        x.make(0, 0, false);
        for (int name = 1; name < 20; name++) {
            Due.due("link: link " + (name + 1), x.link(0, name, 1), name + 1);
        }
        Due.due("link: a 21st entry", x.link(0, 20, 1), ExtentFiles.FULL);
        Due.due("link: exists goes before full", x.link(0, 19, 1), ExtentFiles.EXISTS);
        Due.due("link: bad goes before full", x.link(0, 20, 0), BAD);
        Due.due("link: links stay", x.links(1), 20);
        Due.due("link: unlink one", x.unlink(0, 4), 19);
        Due.due("link: the 20th again", x.link(0, 20, 1), 20);
    }

    private static void unlinks() {
        ExtentFiles x = new ExtentFiles();
        x.make(0, 0, false);
        x.make(0, 1, true);
        x.link(2, 5, 1);
        Due.due("unlink: one of two", x.unlink(0, 0), 1);
        Due.due("unlink: that entry is out", x.find(0, 0), ExtentFiles.NONE);
        Due.due("unlink: the other stays", x.find(2, 5), 1);
        Due.due("unlink: the last", x.unlink(2, 5), 0);
        Due.due("unlink: gone", x.kind(1), 0);
        Due.due("unlink: gone for links", x.links(1), BAD);
        x.make(0, 3, false);
        x.fill(1, 0, 3, 5);
        x.open(2, 1);
        Due.due("unlink: the last link of an open file", x.unlink(0, 3), 0);
        Due.due("unlink: it is there", x.kind(1), 1);
        Due.due("unlink: with no links", x.links(1), 0);
        Due.due("unlink: with its cells", x.read(1, 2), 7);
    }

    private static void unlinkRefuses() {
        ExtentFiles x = new ExtentFiles();
        x.make(0, 0, false);
        x.make(0, 1, true);
        for (int dir : new int[] {-1, 1, 3, 12, MIN, MAX}) {
            Due.due("unlink(" + dir + ", 0)", x.unlink(dir, 0), BAD);
        }
        for (int name : new int[] {-1, 64, MIN, MAX}) {
            Due.due("unlink(0, " + name + ")", x.unlink(0, name), BAD);
        }
        Due.due("unlink: no such entry", x.unlink(0, 2), ExtentFiles.NONE);
        Due.due("unlink: no such entry in an empty directory", x.unlink(2, 0), ExtentFiles.NONE);
        Due.due("unlink: a directory's", x.unlink(0, 1), ExtentFiles.IS_DIR);
        Due.due("unlink: both are there", x.count(0), 2);
    }

    private static void removesDirectories() {
        ExtentFiles x = new ExtentFiles();
        x.make(0, 0, true);
        x.make(1, 63, true);
        Due.due("removeDir: in a directory", x.removeDir(1, 63), 0);
        Due.due("removeDir: its entry is out", x.find(1, 63), ExtentFiles.NONE);
        Due.due("removeDir: it is gone", x.kind(2), 0);
        Due.due("removeDir: it is no directory for make", x.make(2, 0, false), BAD);
        Due.due("removeDir: now empty", x.removeDir(0, 0), 0);
        Due.due("removeDir: only the root is there", x.sync(), 1);
    }

    private static void removeDirRefuses() {
        ExtentFiles x = new ExtentFiles();
        x.make(0, 0, false);
        x.make(0, 1, true);
        x.make(2, 3, false);
        for (int dir : new int[] {-1, 1, 4, 12, MIN, MAX}) {
            Due.due("removeDir(" + dir + ", 1)", x.removeDir(dir, 1), BAD);
        }
        for (int name : new int[] {-1, 64, MIN, MAX}) {
            Due.due("removeDir(0, " + name + ")", x.removeDir(0, name), BAD);
        }
        Due.due("removeDir: no such entry", x.removeDir(0, 3), ExtentFiles.NONE);
        Due.due("removeDir: a file's", x.removeDir(0, 0), ExtentFiles.NOT_DIR);
        Due.due("removeDir: with an entry", x.removeDir(0, 1), ExtentFiles.NOT_EMPTY);
        Due.due("removeDir: it is there", x.find(2, 3), 3);
    }
}
