/** The edges of promises 7 to 11, sentence by sentence. */
public final class QuestionEdgesTest {
    public static void main(String[] args) {
        findInNoDirectory();
        findWithNoName();
        findOfNoEntry();
        nextInNoDirectory();
        nextAfterAnyInt();
        nextOfNone();
        nextInAFullDirectory();
        countOfNoDirectory();
        countFromEmptyToFull();
        kindOfAnyInt();
        linksOfNoThing();
        linksFromNoneTo20();
        Due.end();
    }

    private static void findInNoDirectory() {
        new Rows("find: dir is no directory: BAD").row(Stores.oneOfEach())
            .each("find(?, 2) = BAD", Rows.NO_NUMBERS)
            .each("find(?, 2) = BAD", 2, 3, 4, 11)
            .each("find(?, 64) = BAD", -1, 2, 4, 12)
            .row("find(0, 2) = 2", "find(1, 2) = NONE");
        new Rows("find: in the last thing").row(Stores.things(12)).row("rename(0, 9, 11, 63) = 0", "find(11, 63) = 10")
            .row("find(10, 63) = BAD", "find(9, 63) = NONE");
    }

    private static void findWithNoName() {
        new Rows("find: name is not 0 .. 63: BAD").row("make(0, 0, false) = 1", "make(0, 63, true) = 2")
            .row("make(2, 0, false) = 3", "make(2, 63, false) = 4")
            .each("find(0, ?) = BAD", Rows.NO_NAMES)
            .each("find(2, ?) = BAD", Rows.NO_NAMES)
            .row("find(0, 0) = 1", "find(0, 63) = 2", "find(2, 0) = 3", "find(2, 63) = 4");
    }

    private static void findOfNoEntry() {
        new Rows("find: there is no such entry: NONE").each("find(0, ?) = NONE", 0, 1, 62, 63)
            .row("make(0, 5, true) = 1", "make(0, 6, false) = 2", "make(1, 7, false) = 3")
            .each("find(0, ?) = NONE", 0, 4, 7, 63)
            .each("find(1, ?) = NONE", 0, 5, 6, 8, 63)
            .row("unlink(0, 6) = 0", "find(0, 6) = NONE");
    }

    private static void nextInNoDirectory() {
        new Rows("next: dir is no directory: BAD").row(Stores.oneOfEach())
            .each("next(?, 0) = BAD", Rows.NO_NUMBERS)
            .each("next(?, MIN) = BAD", 2, 3, 4, 11)
            .each("next(?, MAX) = BAD", -1, 2, 3, 4, 11, 12);
    }

    private static void nextAfterAnyInt() {
        new Rows("next: the least name greater than after (any int)")
            .row("make(0, 0, false) = 1", "make(0, 63, true) = 2", "link(0, 31, 1) = 2", "link(0, 32, 1) = 3")
            .each("next(0, ?) = 0", Rows.MIN, Rows.MIN + 1, -65, -64, -2, -1)
            .each("next(0, ?) = 31", 0, 1, 29, 30)
            .row("next(0, 31) = 32")
            .each("next(0, ?) = 63", 32, 33, 61, 62)
            .each("next(0, ?) = NONE", 63, 64, 65, Rows.MAX - 1, Rows.MAX);
        new Rows("next: names of that directory alone").row(Stores.things(12))
            .row("rename(0, 2, 1, 0) = 0", "rename(0, 9, 11, 63) = 0", "rename(0, 1, 5, 0) = 0", "rename(0, 3, 5, 63) = 0")
            .row("next(1, MIN) = 0", "next(1, 0) = NONE", "next(3, -1) = NONE", "next(11, MIN) = 63", "next(11, 62) = 63")
            .row("next(11, 63) = NONE", "next(9, MIN) = NONE", "next(5, 0) = 63", "next(5, 63) = NONE", "next(7, -64) = NONE");
    }

    private static void nextOfNone() {
        new Rows("next: there is none: NONE").each("next(0, ?) = NONE", Rows.ANY_INTS)
            .row("make(0, 5, true) = 1").each("next(1, ?) = NONE", Rows.ANY_INTS)
            .row("next(0, 4) = 5", "next(0, 5) = NONE", "removeDir(0, 5) = 0", "next(0, 4) = NONE");
    }

    private static void nextInAFullDirectory() {
        Rows rows = new Rows("next: 20 names in one directory").row("make(0, 0, false) = 1");
        for (int name = 3; name < 60; name += 3) {
            rows.row("link(0, " + name + ", 1) = " + (name / 3 + 1));
        }
        for (int name = 0; name < 57; name += 3) {
            rows.row("next(0, " + (name - 1) + ") = " + name, "next(0, " + name + ") = " + (name + 3));
        }
        rows.row("next(0, 57) = NONE");
    }

    private static void countOfNoDirectory() {
        new Rows("count: BAD if dir is no directory").row(Stores.oneOfEach())
            .each("count(?) = BAD", Rows.NO_NUMBERS)
            .each("count(?) = BAD", 2, 3, 4, 11);
    }

    private static void countFromEmptyToFull() {
        Rows rows = new Rows("count: how many entries a directory has").row("count(0) = 0", "make(0, 0, true) = 1");
        rows.row("count(0) = 1", "count(1) = 0", "make(1, 0, false) = 2", "count(1) = 1");
        for (int more = 2; more < 20; more++) {
            rows.row("link(1, " + (44 + more) + ", 2) = " + more, "count(1) = " + more);
        }
        rows.row("count(0) = 1", "link(1, 44, 2) = FULL", "count(1) = 19", "unlink(1, 63) = 18", "count(1) = 18");
        new Rows("count: of the last thing").row(Stores.bothFull())
            .row("count(11) = 9", "count(10) = BAD", "count(9) = 0", "count(0) = 11");
    }

    private static void kindOfAnyInt() {
        new Rows("kind: 0 if no thing has the number (any int)").each("kind(?) = 0", Rows.NO_NUMBERS)
            .each("kind(?) = 0", 1, 2, 10, 11).row("kind(0) = 2")
            .row(Stores.oneOfEach()).row("kind(0) = 2", "kind(1) = 2", "kind(2) = 1", "kind(3) = 1")
            .each("kind(?) = 0", 4, 11, 12);
        new Rows("kind: of the last thing").row(Stores.things(12)).row("kind(11) = 2", "kind(10) = 1", "kind(12) = 0")
            .row("removeDir(0, 10) = 0", "kind(11) = 0", "make(0, 10, false) = 11", "kind(11) = 1");
    }

    private static void linksOfNoThing() {
        new Rows("links: BAD if no thing has the number").each("links(?) = BAD", 1, 2, 11).row(Stores.oneOfEach())
            .each("links(?) = BAD", Rows.NO_NUMBERS)
            .each("links(?) = BAD", 4, 11)
            .row("close(0) = 1", "links(3) = BAD", "removeDir(0, 1) = 0", "links(1) = BAD");
    }

    private static void linksFromNoneTo20() {
        Rows rows = new Rows("links: in how many entries a thing is").row("links(0) = 0", "make(0, 0, false) = 1");
        for (int name = 1; name < 20; name++) {
            rows.row("links(1) = " + name, "link(0, " + (44 + name) + ", 1) = " + (name + 1));
        }
        rows.row("links(1) = 20", "links(0) = 0", "open(0, 1) = 0");
        for (int name = 1; name < 20; name++) {
            rows.row("unlink(0, " + (44 + name) + ") = " + (20 - name));
        }
        rows.row("links(1) = 1", "unlink(0, 0) = 0", "links(1) = 0", "close(0) = 1", "links(1) = BAD");
        new Rows("links: a directory is in exactly one entry, the root in none").row(Stores.chain())
            .row("links(0) = 0", "links(1) = 1", "links(11) = 1", "rename(10, 5, 0, 63) = 0", "links(11) = 1");
    }
}
