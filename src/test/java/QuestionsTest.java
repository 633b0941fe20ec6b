/** Promises 7 to 11: find, next, count, kind, links. */
public final class QuestionsTest {
    private static final int BAD = ExtentFiles.BAD;
    private static final int NONE = ExtentFiles.NONE;
    private static final int[] NO_THINGS = {-1, 5, 11, 12, 64, Integer.MIN_VALUE, Integer.MAX_VALUE};

    public static void main(String[] args) {
        ExtentFiles x = new ExtentFiles();
        x.make(0, 63, true);
        x.make(0, 0, false);
        x.make(0, 30, false);
        x.make(1, 7, true);
        x.link(1, 8, 3);
        x.link(0, 31, 3);
        x.open(0, 2);
        x.unlink(0, 0);
        finds(x);
        nexts(x);
        counts(x);
        kinds(x);
        links(x);
        namesOfTheLastThing();
        Due.end();
    }

    private static void finds(ExtentFiles x) {
        Due.due("find: a directory", x.find(0, 63), 1);
        Due.due("find: a file", x.find(0, 30), 3);
        Due.due("find: a further link", x.find(1, 8), 3);
        Due.due("find: below", x.find(1, 7), 4);
        Due.due("find: taken out", x.find(0, 0), NONE);
        Due.due("find: in another directory", x.find(4, 7), NONE);
        Due.due("find: in an open file", x.find(2, 0), BAD);
        Due.due("find: in a file", x.find(3, 0), BAD);
        for (int dir : NO_THINGS) {
            Due.due("find(" + dir + ", 30)", x.find(dir, 30), BAD);
        }
        for (int name : new int[] {-1, 64, 65, Integer.MIN_VALUE, Integer.MAX_VALUE}) {
            Due.due("find(0, " + name + ")", x.find(0, name), BAD);
        }
    }

    private static void nexts(ExtentFiles x) {
        Due.due("next: from the least int", x.next(0, Integer.MIN_VALUE), 30);
        Due.due("next: from -1", x.next(0, -1), 30);
        Due.due("next: before a name", x.next(0, 29), 30);
        Due.due("next: from a name", x.next(0, 30), 31);
        Due.due("next: over a gap", x.next(0, 31), 63);
        Due.due("next: up to the last name", x.next(0, 62), 63);
        Due.due("next: after the last name", x.next(0, 63), NONE);
        Due.due("next: from 64", x.next(0, 64), NONE);
        Due.due("next: from the greatest int", x.next(0, Integer.MAX_VALUE), NONE);
        Due.due("next: in another directory", x.next(1, -1), 7);
        Due.due("next: only names of that directory", x.next(1, 8), NONE);
        Due.due("next: in an empty one", x.next(4, -1), NONE);
        Due.due("next: in a file", x.next(3, -1), BAD);
        for (int dir : NO_THINGS) {
            Due.due("next(" + dir + ", 0)", x.next(dir, 0), BAD);
        }
    }

    private static void counts(ExtentFiles x) {
        Due.due("count: the root", x.count(0), 3);
        Due.due("count: another", x.count(1), 2);
        Due.due("count: an empty one", x.count(4), 0);
        Due.due("count: a file", x.count(3), BAD);
        for (int dir : NO_THINGS) {
            Due.due("count(" + dir + ")", x.count(dir), BAD);
        }
    }

    private static void kinds(ExtentFiles x) {
        Due.due("kind: the root", x.kind(0), 2);
        Due.due("kind: a directory", x.kind(4), 2);
        Due.due("kind: a file", x.kind(3), 1);
        Due.due("kind: a file without links", x.kind(2), 1);
        for (int thing : NO_THINGS) {
            Due.due("kind(" + thing + ")", x.kind(thing), 0);
        }
    }

    private static void links(ExtentFiles x) {
        Due.due("links: the root", x.links(0), 0);
        Due.due("links: a directory", x.links(1), 1);
        Due.due("links: a directory below", x.links(4), 1);
        Due.due("links: a file with three", x.links(3), 3);
        Due.due("links: an open file with none", x.links(2), 0);
        for (int thing : NO_THINGS) {
            Due.due("links(" + thing + ")", x.links(thing), BAD);
        }
    }

    private static void namesOfTheLastThing() {
        ExtentFiles x = new ExtentFiles();
        for (int i = 1; i < 12; i++) {
            x.make(0, i, true);
        }
        x.rename(0, 1, 11, 63);
        x.rename(0, 2, 6, 0);
        Due.due("next: does not run into the directory after", x.next(5, -1), NONE);
        Due.due("next: does not run into the directory before", x.next(7, Integer.MIN_VALUE), NONE);
        Due.due("count: of the directory before", x.count(5), 0);
        Due.due("find: the last name of the last thing", x.find(11, 63), 1);
        Due.due("next: the last name of the last thing", x.next(11, 0), 63);
        Due.due("count: of the last thing", x.count(11), 1);
        Due.due("kind: of the last thing", x.kind(11), 2);
        Due.due("links: of the last thing", x.links(11), 1);
    }
}
