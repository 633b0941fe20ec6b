/** The edges of promise 15, sentence by sentence. */
public final class FillEdgesTest {
    private static final int MIN = Rows.MIN;
    private static final int MAX = Rows.MAX;

    public static void main(String[] args) {
        thingIsNoFile();
        atIsNot0To47();
        manyIsNot1To48();
        atPlusManyIsAbove48();
        sumsThatWrap();
        cellsFromAtOn();
        valuesWrap();
        getsCellsIfItHadFewer();
        newCellsBeforeAtAre0();
        emptyAndFullFile();
        lastThing();
        Due.end();
    }

    private static void thingIsNoFile() {
        new Rows("fill: thing is no file: BAD").row(Stores.oneOfEach())
            .each("fill(?, 0, 1, 9) = BAD", Rows.NO_NUMBERS)
            .each("fill(?, 0, 48, 9) = BAD", 0, 1, 4, 11)
            .row("fill(2, 0, 1, 9) = 1", "fill(3, 0, 1, 9) = 1", "unlink(0, 2) = 0", "fill(2, 0, 1, 9) = BAD");
    }

    private static void atIsNot0To47() {
        new Rows("fill: at is not 0 .. 47: BAD").row(Stores.things(4)).row("fill(2, 0, 3, 5) = 3")
            .each("fill(2, ?, 1, 9) = BAD", MIN, MIN + 1, -48, -2, -1, 48, 49, 96, MAX - 1, MAX)
            .row("fill(2, 0, 1, 9) = 3", "read(2, 0) = 9", "fill(2, 47, 1, 8) = 48", "read(2, 47) = 8");
        new Rows("fill: at is too small, and at + many within 48").row(Stores.things(4)).row("fill(2, 0, 3, 5) = 3")
            .row("fill(2, -1, 2, 9) = BAD", "fill(2, -1, 48, 9) = BAD", "fill(2, -47, 48, 9) = BAD");
    }

    private static void manyIsNot1To48() {
        new Rows("fill: many is not 1 .. 48: BAD").row(Stores.things(4)).row("fill(2, 0, 3, 5) = 3")
            .each("fill(2, 0, ?, 9) = BAD", MIN, MIN + 1, -48, -1, 0, 49, 50, 96, MAX - 1, MAX)
            .each("fill(2, 47, ?, 9) = BAD", MIN, -47, -1, 0, 49, MAX)
            .each("fill(2, 5, ?, 9) = BAD", -5, -4, -1, 0)
            .row("fill(2, 0, 1, 9) = 3", "fill(2, 0, 48, 9) = 48", "read(2, 47) = 56");
    }

    private static void atPlusManyIsAbove48() {
        Rows rows = new Rows("fill: at + many is above 48: BAD").row(Stores.things(4)).row("fill(2, 0, 3, 5) = 3");
        for (int at = 1; at < 48; at++) {
            rows.row("fill(2, " + at + ", " + (49 - at) + ", 9) = BAD");
        }
        rows.row("fill(2, 47, 48, 9) = BAD", "fill(2, 24, 48, 9) = BAD");
        for (int at = 0; at < 48; at++) {
            rows.row("fill(2, " + at + ", " + (48 - at) + ", " + (100 * at) + ") = 48");
        }
        rows.row("read(2, 0) = 0", "read(2, 1) = 100", "read(2, 46) = 4600", "read(2, 47) = 4700");
    }

    private static void sumsThatWrap() {
        new Rows("fill: at + many beyond the greatest int is above 48").row(Stores.things(4)).row("fill(2, 0, 3, 5) = 3")
            .row("fill(2, 1, MAX, 9) = BAD", "fill(2, 47, MAX, 9) = BAD", "fill(2, MAX, 1, 9) = BAD")
            .row("fill(2, MAX, MAX, 9) = BAD", "fill(2, MAX, 48, 9) = BAD", "fill(2, MIN, MIN, 9) = BAD")
            .row("fill(2, MIN, 48, 9) = BAD", "fill(2, MIN, MAX, 9) = BAD", "fill(2, MAX, MIN, 9) = BAD");
    }

    private static void cellsFromAtOn() {
        new Rows("fill: the cells at .. at + many - 1 become value, value + 1, .., and no others").row(Stores.things(7))
            .row("fill(2, 0, 48, 200) = 48", "fill(4, 0, 48, 400) = 48", "fill(6, 0, 48, 600) = 48")
            .row("fill(4, 20, 3, -1) = 48", "read(4, 19) = 419", "read(4, 20) = -1", "read(4, 21) = 0", "read(4, 22) = 1")
            .row("read(4, 23) = 423", "fill(4, 0, 1, -7) = 48", "read(4, 0) = -7", "read(4, 1) = 401")
            .row("fill(4, 47, 1, -8) = 48", "read(4, 47) = -8", "read(4, 46) = 446")
            .row("read(2, 47) = 247", "read(6, 0) = 600", "read(2, 0) = 200", "read(6, 47) = 647")
            .row("fill(4, 0, 48, 0) = 48", "read(4, 0) = 0", "read(4, 47) = 47", "read(2, 47) = 247", "read(6, 0) = 600");
    }

    private static void valuesWrap() {
        new Rows("fill: value, value + 1, .. (wrapping)").row("make(0, 0, false) = 1")
            .row("fill(1, 0, 2, MAX) = 2", "read(1, 0) = MAX", "read(1, 1) = MIN")
            .row("fill(1, 0, 1, MIN) = 2", "read(1, 0) = MIN", "read(1, 1) = MIN")
            .row("fill(1, 0, 3, -2) = 3", "read(1, 0) = -2", "read(1, 1) = -1", "read(1, 2) = 0")
            .row("fill(1, 0, 48, 2147483600) = 48", "read(1, 46) = 2147483646", "read(1, 47) = MAX")
            .row("fill(1, 0, 48, 2147483601) = 48", "read(1, 46) = MAX", "read(1, 47) = MIN")
            .row("fill(1, 0, 48, MAX) = 48", "read(1, 0) = MAX", "read(1, 1) = MIN", "read(1, 47) = -2147483602");
    }

    private static void getsCellsIfItHadFewer() {
        new Rows("fill: the file gets at + many cells if it had fewer").row("make(0, 0, false) = 1")
            .row("fill(1, 0, 5, 10) = 5", "length(1) = 5")
            .row("fill(1, 0, 4, 20) = 5", "fill(1, 0, 5, 30) = 5", "fill(1, 4, 1, 40) = 5", "fill(1, 3, 1, 50) = 5")
            .row("fill(1, 4, 2, 60) = 6", "length(1) = 6", "fill(1, 6, 1, 70) = 7", "length(1) = 7", "fill(1, 0, 8, 80) = 8")
            .row("read(1, 7) = 87", "read(1, 8) = 0", "cut(1, 3) = 8", "fill(1, 2, 1, 90) = 3", "fill(1, 3, 1, 91) = 4")
            .row("read(1, 1) = 81", "read(1, 2) = 90", "read(1, 3) = 91");
    }

    private static void newCellsBeforeAtAre0() {
        new Rows("fill: new cells before cell at are 0").row("make(0, 0, false) = 1")
            .row("fill(1, 0, 48, 100) = 48", "cut(1, 2) = 48", "fill(1, 3, 1, 7) = 4", "read(1, 1) = 101", "read(1, 2) = 0")
            .row("read(1, 3) = 7", "fill(1, 47, 1, 8) = 48", "read(1, 4) = 0", "read(1, 46) = 0", "sum(1) = 714")
            .row("cut(1, 0) = 48", "fill(1, 46, 2, 3) = 48", "read(1, 0) = 0", "read(1, 45) = 0", "sum(1) = 333");
        new Rows("fill: new cells before cell at are 0 after a crash").row("make(0, 0, false) = 1", "fill(1, 0, 2, 5) = 2")
            .row("sync() = 2", "fill(1, 0, 48, 100) = 48", "crash(0, 0) = 2", "fill(1, 40, 1, 1) = 41", "read(1, 2) = 0")
            .row("read(1, 39) = 0", "sum(1) = 58");
    }

    private static void emptyAndFullFile() {
        new Rows("fill: an empty file").row("make(0, 0, false) = 1", "length(1) = 0", "fill(1, 0, 1, 6) = 1", "cut(1, 0) = 1")
            .row("fill(1, 47, 1, 6) = 48", "cut(1, 0) = 48", "fill(1, 0, 48, 6) = 48");
        new Rows("fill: a full file").row("make(0, 0, false) = 1", "cut(1, 48) = 0", "fill(1, 0, 1, 6) = 48")
            .row("fill(1, 47, 1, 7) = 48", "fill(1, 0, 48, 8) = 48", "fill(1, 47, 2, 9) = BAD", "length(1) = 48");
    }

    private static void lastThing() {
        new Rows("fill: the last cell of the last thing").row(Stores.things(11)).row("make(0, 60, false) = 11")
            .row("fill(10, 0, 48, 1000) = 48", "fill(11, 0, 48, 1100) = 48", "fill(11, 47, 1, -3) = 48", "read(11, 47) = -3")
            .row("read(11, 46) = 1146", "read(11, 0) = 1100", "read(10, 47) = 1047", "fill(11, 47, 2, 1) = BAD");
    }
}
