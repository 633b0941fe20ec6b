/** The edges of promises 16 to 19, sentence by sentence. */
public final class CellEdgesTest {
    private static final int MIN = Rows.MIN;
    private static final int MAX = Rows.MAX;

    public static void main(String[] args) {
        readOfNoFile();
        readOfNoCell();
        lengthOfNoFile();
        lengthFrom0To48();
        cutOfNoFile();
        cutToNoLength();
        cutToTheEdges();
        cutDropsLaterOnes();
        cutAddsZeros();
        cutOfNeighbours();
        sumOfNoFile();
        sumOverAllCells();
        sumWraps();
        Due.end();
    }

    private static void readOfNoFile() {
        new Rows("read: 0 if thing is no file").row(Stores.things(12)).row("fill(2, 0, 48, 200) = 48", "fill(10, 0, 48, 9) = 48")
            .each("read(?, 0) = 0", Rows.NO_NUMBERS)
            .each("read(?, 47) = 0", Rows.NO_NUMBERS)
            .each("read(?, 0) = 0", 0, 1, 3, 11)
            .each("read(?, 48) = 0", 0, 1, 9)
            .row("read(2, 0) = 200", "unlink(0, 1) = 0", "read(2, 0) = 0");
    }

    private static void readOfNoCell() {
        new Rows("read: 0 if the file has no cell at (any int)").row("make(0, 0, false) = 1", "make(0, 1, false) = 2")
            .row("make(0, 2, false) = 3", "fill(1, 0, 48, 100) = 48", "fill(3, 0, 48, 300) = 48")
            .each("read(2, ?) = 0", MIN, -1, 0, 1, 47, 48, MAX)
            .row("fill(2, 0, 3, 200) = 3", "read(2, 0) = 200", "read(2, 2) = 202")
            .each("read(2, ?) = 0", MIN, MIN + 1, -97, -96, -95, -48, -1, 3, 4, 47, 48, 49, 96, MAX - 1, MAX)
            .row("fill(2, 0, 48, 200) = 48", "read(2, 47) = 247")
            .each("read(2, ?) = 0", MIN, MIN + 1, -1, 48, 49, MAX - 1, MAX);
    }

    private static void lengthOfNoFile() {
        new Rows("length: BAD if thing is no file").row(Stores.oneOfEach())
            .each("length(?) = BAD", Rows.NO_NUMBERS)
            .each("length(?) = BAD", 0, 1, 4, 11)
            .row("length(2) = 0", "length(3) = 0", "close(0) = 1", "length(3) = BAD");
    }

    private static void lengthFrom0To48() {
        Rows rows = new Rows("length: the number of cells of a file").row("make(0, 0, false) = 1", "length(1) = 0");
        for (int length = 1; length <= 48; length++) {
            rows.row("fill(1, " + (length - 1) + ", 1, 5) = " + length, "length(1) = " + length);
        }
        rows.row("fill(1, 48, 1, 5) = BAD", "length(1) = 48");
        new Rows("length: of the last thing").row(Stores.things(11)).row("make(0, 60, false) = 11", "length(11) = 0")
            .row("cut(11, 48) = 0", "length(11) = 48", "length(10) = 0");
    }

    private static void cutOfNoFile() {
        new Rows("cut: thing is no file: BAD").row(Stores.oneOfEach())
            .each("cut(?, 0) = BAD", Rows.NO_NUMBERS)
            .each("cut(?, 48) = BAD", 0, 1, 4, 11)
            .each("cut(?, 49) = BAD", -1, 0, 1, 4, 12)
            .row("cut(2, 5) = 0", "cut(3, 5) = 0", "close(0) = 1", "cut(3, 5) = BAD");
    }

    private static void cutToNoLength() {
        new Rows("cut: length is not 0 .. 48: BAD").row("make(0, 0, false) = 1")
            .each("cut(1, ?) = BAD", MIN, MIN + 1, -48, -1, 49, 50, 96, MAX - 1, MAX)
            .row("fill(1, 0, 48, 7) = 48")
            .each("cut(1, ?) = BAD", MIN, MIN + 1, -48, -1, 49, 50, 96, MAX - 1, MAX);
    }

    private static void cutToTheEdges() {
        new Rows("cut: answers the number of its cells before").row("make(0, 0, false) = 1", "cut(1, 0) = 0", "length(1) = 0")
            .row("cut(1, 48) = 0", "length(1) = 48", "cut(1, 48) = 48", "cut(1, 47) = 48", "cut(1, 1) = 47", "cut(1, 1) = 1")
            .row("cut(1, 0) = 1", "cut(1, 1) = 0", "length(1) = 1");
    }

    private static void cutDropsLaterOnes() {
        new Rows("cut: later ones are dropped").row("make(0, 0, false) = 1", "fill(1, 0, 48, 100) = 48")
            .row("cut(1, 47) = 48", "read(1, 46) = 146", "read(1, 47) = 0", "cut(1, 1) = 47", "read(1, 0) = 100")
            .row("read(1, 1) = 0", "sum(1) = 100", "cut(1, 0) = 1", "read(1, 0) = 0", "sum(1) = 0", "kind(1) = 1", "links(1) = 1");
        new Rows("cut: as many cells as it has").row("make(0, 0, false) = 1", "fill(1, 0, 48, 100) = 48")
            .unchanged("cut(1, 48) = 48").row("cut(1, 5) = 48").unchanged("cut(1, 5) = 5");
    }

    private static void cutAddsZeros() {
        new Rows("cut: new ones are 0").row("make(0, 0, false) = 1", "fill(1, 0, 48, 100) = 48")
            .row("cut(1, 0) = 48", "cut(1, 48) = 0", "read(1, 0) = 0", "read(1, 47) = 0", "sum(1) = 0")
            .row("fill(1, 0, 48, 100) = 48", "cut(1, 3) = 48", "cut(1, 4) = 3", "read(1, 2) = 102", "read(1, 3) = 0")
            .row("cut(1, 48) = 4", "read(1, 4) = 0", "read(1, 47) = 0", "sum(1) = 608");
    }

    private static void cutOfNeighbours() {
        new Rows("cut: the cells of no other file").row(Stores.things(11)).row("make(0, 60, false) = 11")
            .row("fill(8, 0, 48, 800) = 48", "fill(10, 0, 48, 1000) = 48", "fill(11, 0, 48, 1100) = 48")
            .row("cut(10, 0) = 48", "read(11, 0) = 1100", "read(11, 47) = 1147", "read(8, 47) = 847")
            .row("cut(11, 47) = 48", "read(11, 46) = 1146", "read(11, 47) = 0", "cut(11, 0) = 47", "length(10) = 0")
            .row("length(8) = 48", "sync() = 12");
    }

    private static void sumOfNoFile() {
        new Rows("sum: 0 if thing is no file").row(Stores.things(12)).row("fill(2, 0, 48, 1) = 48", "fill(10, 0, 48, 9) = 48")
            .each("sum(?) = 0", Rows.NO_NUMBERS)
            .each("sum(?) = 0", 0, 1, 3, 9, 11)
            .row("sum(2) = 38024", "unlink(0, 1) = 0", "sum(2) = 0");
    }

    private static void sumOverAllCells() {
        new Rows("sum: the sum of (i + 1) times cell i over all cells").row("make(0, 0, false) = 1", "sum(1) = 0")
            .row("fill(1, 0, 1, 1) = 1", "sum(1) = 1", "fill(1, 0, 1, 0) = 1", "sum(1) = 0", "fill(1, 47, 1, 1) = 48")
            .row("sum(1) = 48", "fill(1, 46, 2, -1) = 48", "sum(1) = -47", "fill(1, 0, 48, 0) = 48", "sum(1) = 36848")
            .row("cut(1, 47) = 48", "sum(1) = 34592");
        new Rows("sum: of the last thing").row(Stores.things(11)).row("make(0, 60, false) = 11", "fill(11, 47, 1, 2) = 48")
            .row("sum(11) = 96", "sum(10) = 0");
    }

    private static void sumWraps() {
        new Rows("sum: (wrapping)").row("make(0, 0, false) = 1", "fill(1, 0, 1, MAX) = 1", "sum(1) = MAX")
            .row("fill(1, 0, 1, MIN) = 1", "sum(1) = MIN", "cut(1, 0) = 1")
            .row("fill(1, 1, 1, MIN) = 2", "sum(1) = 0", "fill(1, 1, 1, MAX) = 2", "sum(1) = -2")
            .row("fill(1, 0, 2, MAX) = 2", "sum(1) = MAX", "fill(1, 0, 1, 1) = 2", "fill(1, 1, 1, 1073741823) = 2")
            .row("sum(1) = MAX", "fill(1, 0, 1, 2) = 2", "sum(1) = MIN")
            .row("cut(1, 0) = 2", "fill(1, 47, 1, MAX) = 48", "sum(1) = -48", "fill(1, 47, 1, 44739242) = 48")
            .row("sum(1) = 2147483616", "fill(1, 47, 1, 44739243) = 48", "sum(1) = -2147483632");
    }
}
