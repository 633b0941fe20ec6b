/** The edges of promises 3 and 4, sentence by sentence. */
public final class LinkEdgesTest {
    public static void main(String[] args) {
        linkInNoDirectory();
        linkWithNoName();
        linkOfNoFile();
        linkOfAFileWithoutLinks();
        linkWithANameThatIsGiven();
        linkWith20Entries();
        linkWith12Things();
        linkAtTheLastNumbers();
        unlinkInNoDirectory();
        unlinkWithNoName();
        unlinkOfNoEntry();
        unlinkOfADirectory();
        unlinkToNoLinks();
        unlinkOfAnOpenFile();
        Due.end();
    }

    private static void linkInNoDirectory() {
        new Rows("link: dir is no directory: BAD").row(Stores.oneOfEach())
            .each("link(?, 5, 2) = BAD", Rows.NO_NUMBERS)
            .each("link(?, 5, 2) = BAD", 2, 3, 4, 11)
            .each("link(?, 64, 1) = BAD", -1, 2, 4, 12)
            .row("link(1, 5, 2) = 2");
        new Rows("link: dir is no directory goes before full").row(Stores.bothFull())
            .each("link(?, 50, 2) = BAD", -1, 2, 10, 12);
    }

    private static void linkWithNoName() {
        new Rows("link: name is not 0 .. 63: BAD").row("make(0, 1, true) = 1", "make(0, 2, false) = 2")
            .each("link(0, ?, 2) = BAD", Rows.NO_NAMES)
            .each("link(1, ?, 2) = BAD", Rows.NO_NAMES)
            .row("link(0, 0, 2) = 2", "link(0, 63, 2) = 3", "link(1, 0, 2) = 4", "link(1, 63, 2) = 5")
            .row("find(0, 0) = 2", "find(0, 63) = 2", "find(1, 0) = 2", "find(1, 63) = 2");
        new Rows("link: a bad name goes before full").row(Stores.bothFull())
            .each("link(11, ?, 2) = BAD", Rows.NO_NAMES);
    }

    private static void linkOfNoFile() {
        new Rows("link: thing is no file: BAD").row(Stores.oneOfEach())
            .each("link(0, 5, ?) = BAD", Rows.NO_NUMBERS)
            .each("link(0, 5, ?) = BAD", 0, 1, 4, 11)
            .each("link(1, 5, ?) = BAD", 0, 1, 4, 11)
            .row("links(1) = 1", "links(0) = 0");
        new Rows("link: no file goes before exists").row(Stores.oneOfEach())
            .each("link(0, 2, ?) = BAD", -1, 0, 1, 4, 11, 12)
            .row("link(0, 1, 1) = BAD", "link(0, 2, 2) = EXISTS");
        new Rows("link: no file goes before full").row(Stores.entries(20))
            .each("link(0, 50, ?) = BAD", -1, 0, 2, 3, 11, 12);
        new Rows("link: a file that is gone is no file").row("make(0, 0, false) = 1", "make(0, 1, false) = 2")
            .row("unlink(0, 0) = 0", "link(0, 0, 1) = BAD", "rename(0, 1, 0, 0) = 0", "link(0, 1, 2) = 2");
    }

    private static void linkOfAFileWithoutLinks() {
        new Rows("link: it has no links: BAD").row(Stores.oneOfEach())
            .row("link(0, 5, 3) = BAD", "link(1, 5, 3) = BAD", "links(3) = 0", "kind(3) = 1")
            .row("make(0, 4, false) = 4", "open(1, 4) = 0", "open(2, 4) = 0", "link(0, 5, 4) = 2")
            .row("unlink(0, 4) = 1", "link(0, 4, 4) = 2", "unlink(0, 4) = 1", "unlink(0, 5) = 0", "link(0, 4, 4) = BAD");
        new Rows("link: no links goes before exists").row(Stores.oneOfEach())
            .row("link(0, 1, 3) = BAD", "link(0, 2, 3) = BAD");
        new Rows("link: no links goes before full").row(Stores.entries(19))
            .row("make(0, 60, false) = 3", "open(0, 3) = 0", "unlink(0, 60) = 0", "link(0, 61, 1) = 19")
            .row("link(0, 62, 3) = BAD", "link(0, 61, 3) = BAD", "link(0, 62, 1) = FULL");
    }

    private static void linkWithANameThatIsGiven() {
        new Rows("link: dir has an entry with the name: EXISTS")
            .row("make(0, 0, false) = 1", "make(0, 63, true) = 2", "make(2, 0, false) = 3")
            .row("link(0, 0, 1) = EXISTS", "link(0, 0, 3) = EXISTS", "link(0, 63, 1) = EXISTS", "link(2, 0, 1) = EXISTS")
            .row("link(2, 63, 1) = 2", "link(2, 63, 1) = EXISTS", "links(1) = 2")
            .row("unlink(2, 63) = 1", "link(2, 63, 3) = 2");
        new Rows("link: exists goes before 20 entries").row(Stores.entries(20))
            .row("link(0, 0, 1) = EXISTS", "link(0, 1, 1) = EXISTS", "link(2, 18, 1) = EXISTS", "link(2, 19, 1) = FULL");
    }

    private static void linkWith20Entries() {
        new Rows("link: there are 20 entries: FULL").row(Stores.entries(19))
            .row("link(2, 63, 1) = 19", "links(1) = 19")
            .row("link(0, 62, 1) = FULL", "link(2, 62, 1) = FULL", "links(1) = 19")
            .row("unlink(0, 0) = 18", "link(2, 62, 1) = 19", "link(0, 0, 1) = FULL");
        Rows rows = new Rows("link: all 20 entries are links of one file").row("make(0, 0, false) = 1");
        for (int name = 1; name < 20; name++) {
            rows.row("link(0, " + (44 + name) + ", 1) = " + (name + 1));
        }
        rows.row("links(1) = 20", "count(0) = 20", "link(0, 44, 1) = FULL", "link(0, 63, 1) = EXISTS");
    }

    private static void linkWith12Things() {
        new Rows("link: a further entry with 12 things").row(Stores.things(12))
            .row("link(0, 63, 10) = 2", "link(11, 63, 10) = 3", "sync() = 12");
    }

    private static void linkAtTheLastNumbers() {
        new Rows("link: the file is the last thing").row(Stores.things(11))
            .row("make(0, 62, false) = 11", "link(9, 63, 11) = 2", "find(9, 63) = 11", "links(11) = 2", "links(10) = 1");
        new Rows("link: the directory is the last thing").row(Stores.things(12))
            .row("link(11, 63, 2) = 2", "find(11, 63) = 2", "count(11) = 1", "count(9) = 0");
    }

    private static void unlinkInNoDirectory() {
        new Rows("unlink: dir is no directory: BAD").row(Stores.oneOfEach())
            .each("unlink(?, 2) = BAD", Rows.NO_NUMBERS)
            .each("unlink(?, 2) = BAD", 2, 3, 4, 11)
            .each("unlink(?, 64) = BAD", -1, 2, 4, 12)
            .row("unlink(0, 2) = 0");
    }

    private static void unlinkWithNoName() {
        new Rows("unlink: name is not 0 .. 63: BAD").row("make(0, 0, false) = 1", "make(0, 63, false) = 2")
            .row("make(0, 5, true) = 3", "make(3, 0, false) = 4", "make(3, 63, false) = 5")
            .each("unlink(0, ?) = BAD", Rows.NO_NAMES)
            .each("unlink(3, ?) = BAD", Rows.NO_NAMES)
            .row("unlink(0, 0) = 0", "unlink(0, 63) = 0", "unlink(3, 0) = 0", "unlink(3, 63) = 0", "sync() = 2");
    }

    private static void unlinkOfNoEntry() {
        new Rows("unlink: dir has no entry with the name: NONE")
            .row("unlink(0, 0) = NONE", "unlink(0, 63) = NONE")
            .row("make(0, 5, false) = 1", "make(0, 6, true) = 2", "make(2, 7, false) = 3")
            .each("unlink(0, ?) = NONE", 0, 4, 7, 63)
            .each("unlink(2, ?) = NONE", 5, 6, 8)
            .row("unlink(0, 5) = 0", "unlink(0, 5) = NONE");
    }

    private static void unlinkOfADirectory() {
        new Rows("unlink: it is a directory's: IS_DIR")
            .row("make(0, 0, true) = 1", "make(0, 63, true) = 2", "make(2, 0, false) = 3")
            .row("unlink(0, 0) = IS_DIR", "unlink(0, 63) = IS_DIR")
            .row("unlink(2, 0) = 0", "unlink(0, 63) = IS_DIR");
        new Rows("unlink: the last thing is a directory").row(Stores.chain()).row("unlink(10, 5) = IS_DIR");
    }

    private static void unlinkToNoLinks() {
        Rows rows = new Rows("unlink: answers the file's links then; with none, and not open, it is gone");
        rows.row("make(0, 0, false) = 1", "fill(1, 0, 3, 9) = 3");
        for (int name = 1; name < 20; name++) {
            rows.row("link(0, " + name + ", 1) = " + (name + 1));
        }
        for (int name = 0; name < 19; name++) {
            rows.row("unlink(0, " + name + ") = " + (19 - name));
        }
        rows.row("links(1) = 1", "kind(1) = 1", "length(1) = 3", "unlink(0, 19) = 0")
            .row("links(1) = BAD", "kind(1) = 0", "length(1) = BAD", "read(1, 0) = 0", "open(0, 1) = BAD")
            .row("count(0) = 0", "sync() = 1", "make(0, 0, true) = 1");
        new Rows("unlink: the last thing is gone").row(Stores.things(11)).row("make(0, 60, false) = 11", "link(0, 61, 11) = 2")
            .row("unlink(0, 60) = 1", "kind(11) = 1", "unlink(0, 61) = 0", "kind(11) = 0", "kind(10) = 1", "sync() = 11");
    }

    private static void unlinkOfAnOpenFile() {
        new Rows("unlink: with none, but open at one handle or all")
            .row("make(0, 0, false) = 1", "make(0, 1, false) = 2", "fill(1, 0, 48, 3) = 48", "open(3, 1) = 0")
            .row("unlink(0, 0) = 0", "kind(1) = 1", "links(1) = 0", "length(1) = 48", "read(1, 47) = 50")
            .row("open(0, 1) = 0", "open(1, 1) = 0", "open(2, 1) = 0", "close(3) = 0", "close(0) = 0", "close(2) = 0")
            .row("kind(1) = 1", "close(1) = 1", "kind(1) = 0")
            .row("open(0, 2) = 0", "close(0) = 0", "unlink(0, 1) = 0", "kind(2) = 0");
        new Rows("unlink: another file that is open does not keep it")
            .row("make(0, 0, false) = 1", "make(0, 1, false) = 2", "open(0, 2) = 0", "open(3, 2) = 0")
            .row("unlink(0, 0) = 0", "kind(1) = 0", "kind(2) = 1");
    }
}
