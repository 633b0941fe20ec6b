/** Promises 15 to 19: fill, read, length, cut, sum. */
public final class CellsTest {
    private static final int BAD = ExtentFiles.BAD;
    private static final int MIN = Integer.MIN_VALUE;
    private static final int MAX = Integer.MAX_VALUE;
    private static final int[] NO_FILES = {-1, 0, 2, 3, 11, 12, MIN, MAX};

    public static void main(String[] args) {
        fills();
        fillsToTheEdges();
        fillRefuses();
        wraps();
        cuts();
        cutRefuses();
        noFile();
        filesAreApart();
        worksWithoutLinks();
        Due.end();
    }

    /** File 1, and directory 2. */
    private static ExtentFiles oneFile() {
        ExtentFiles x = new ExtentFiles();
        x.make(0, 0, false);
        x.make(0, 1, true);
        return x;
    }

    private static void fills() {
        ExtentFiles x = oneFile();
        Due.due("fill: behind a gap", x.fill(1, 3, 2, 10), 5);
        Due.due("fill: the length", x.length(1), 5);
        for (int at = 0; at < 6; at++) {
            Due.due("fill: cell " + at, x.read(1, at), at == 3 ? 10 : at == 4 ? 11 : 0);
        }
        Due.due("fill: sum", x.sum(1), 4 * 10 + 5 * 11);
        Due.due("fill: inside keeps the length", x.fill(1, 1, 2, -1), 5);
        Due.due("fill: over the end", x.fill(1, 4, 3, 7), 7);
        int[] due = {0, -1, 0, 10, 7, 8, 9};
        int sum = 0;
        for (int at = 0; at < due.length; at++) {
            Due.due("fill: then cell " + at, x.read(1, at), due[at]);
            sum += (at + 1) * due[at];
        }
        Due.due("fill: then sum", x.sum(1), sum);
    }

    private static void fillsToTheEdges() {
        ExtentFiles x = oneFile();
        Due.due("fill: the first cell", x.fill(1, 0, 1, 4), 1);
        Due.due("fill: the last cell", x.fill(1, 47, 1, 5), 48);
        Due.due("fill: read the last", x.read(1, 47), 5);
        Due.due("fill: read the one before", x.read(1, 46), 0);
        Due.due("fill: all cells", x.fill(1, 0, 48, 1), 48);
        Due.due("fill: the last of all", x.read(1, 47), 48);
        Due.due("fill: sum of squares", x.sum(1), 48 * 49 * 97 / 6);
    }

    private static void fillRefuses() {
        ExtentFiles x = oneFile();
        x.fill(1, 0, 2, 5);
        for (int at : new int[] {-1, 48, 49, MIN, MAX}) {
            Due.due("fill(1, " + at + ", 1, 9)", x.fill(1, at, 1, 9), BAD);
        }
        for (int many : new int[] {0, -1, 49, MIN, MAX}) {
            Due.due("fill(1, 0, " + many + ", 9)", x.fill(1, 0, many, 9), BAD);
            Due.due("fill(1, 47, " + many + ", 9)", x.fill(1, 47, many, 9), BAD);
        }
        Due.due("fill: one beyond", x.fill(1, 47, 2, 9), BAD);
        Due.due("fill: all, one later", x.fill(1, 1, 48, 9), BAD);
        Due.due("fill: at the edge", x.fill(1, 24, 25, 9), BAD);
        Due.due("fill: the length is as before", x.length(1), 2);
        Due.due("fill: the cells are as before", x.sum(1), 5 + 2 * 6);
    }

    private static void wraps() {
        ExtentFiles x = oneFile();
        x.fill(1, 0, 4, MAX - 1);
        Due.due("fill: the greatest int", x.read(1, 1), MAX);
        Due.due("fill: wraps to the least", x.read(1, 2), MIN);
        Due.due("fill: and on", x.read(1, 3), MIN + 1);
        Due.due("sum: wraps", x.sum(1), (MAX - 1) + 2 * MAX + 3 * MIN + 4 * (MIN + 1));
    }

    private static void cuts() {
        ExtentFiles x = oneFile();
        Due.due("cut: a new file to 48", x.cut(1, 48), 0);
        Due.due("cut: new cells are 0", x.sum(1), 0);
        Due.due("cut: the length", x.length(1), 48);
        x.fill(1, 0, 48, 100);
        Due.due("cut: shorter", x.cut(1, 3), 48);
        Due.due("cut: the last cell left", x.read(1, 2), 102);
        Due.due("cut: the first dropped", x.read(1, 3), 0);
        Due.due("cut: the sum is of three", x.sum(1), 100 + 2 * 101 + 3 * 102);
        Due.due("cut: longer", x.cut(1, 10), 3);
        Due.due("cut: dropped cells come back as 0", x.read(1, 5), 0);
        Due.due("cut: the sum is as before", x.sum(1), 100 + 2 * 101 + 3 * 102);
        Due.due("cut: as long as it is", x.cut(1, 10), 10);
        Due.due("cut: to nothing", x.cut(1, 0), 10);
        Due.due("cut: no cells", x.length(1), 0);
        Due.due("cut: then a fill with a gap", x.fill(1, 2, 1, 1), 3);
        Due.due("cut: the gap is 0", x.sum(1), 3);
        Due.due("cut: before", x.cut(1, 1), 3);
    }

    private static void cutRefuses() {
        ExtentFiles x = oneFile();
        x.fill(1, 0, 2, 5);
        for (int length : new int[] {-1, 49, MIN, MAX}) {
            Due.due("cut(1, " + length + ")", x.cut(1, length), BAD);
        }
        Due.due("cut: the length is as before", x.length(1), 2);
    }

    private static void noFile() {
        ExtentFiles x = oneFile();
        x.fill(1, 0, 48, 1);
        for (int thing : NO_FILES) {
            Due.due("fill(" + thing + ", 0, 1, 1)", x.fill(thing, 0, 1, 1), BAD);
            Due.due("read(" + thing + ", 0)", x.read(thing, 0), 0);
            Due.due("length(" + thing + ")", x.length(thing), BAD);
            Due.due("cut(" + thing + ", 1)", x.cut(thing, 1), BAD);
            Due.due("sum(" + thing + ")", x.sum(thing), 0);
        }
        for (int at : new int[] {-1, 48, 49, -48, MIN, MAX}) {
            Due.due("read(1, " + at + ")", x.read(1, at), 0);
        }
    }

    private static void filesAreApart() {
        ExtentFiles x = new ExtentFiles();
        for (int i = 1; i < 12; i++) {
            x.make(0, i, false);
            Due.due("fill: all of file " + i, x.fill(i, 0, 48, 1000 * i), 48);
        }
        for (int i = 1; i < 12; i++) {
            Due.due("sum: of file " + i, x.sum(i), 1000 * i * (48 * 49 / 2) + 47 * 48 * 49 / 3);
        }
        x.cut(5, 1);
        x.cut(7, 47);
        for (int i = 1; i < 12; i++) {
            Due.due("read: first of file " + i, x.read(i, 0), 1000 * i);
            Due.due("read: last of file " + i, x.read(i, 47), i == 5 || i == 7 ? 0 : 1000 * i + 47);
            Due.due("read: beyond file " + i, x.read(i, 48), 0);
            Due.due("read: before file " + i, x.read(i, -1), 0);
        }
    }

    private static void worksWithoutLinks() {
        ExtentFiles x = oneFile();
        x.open(0, 1);
        x.unlink(0, 0);
        Due.due("fill: without links", x.fill(1, 0, 2, 3), 2);
        Due.due("cut: without links", x.cut(1, 5), 2);
        Due.due("length: without links", x.length(1), 5);
        Due.due("sum: without links", x.sum(1), 3 + 2 * 4);
    }
}
