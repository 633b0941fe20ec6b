/** Promise 1: only the root, without entries, now and in the saved state; nothing is open. */
public final class NewObjectTest {
    public static void main(String[] args) {
        ExtentFiles x = new ExtentFiles();
        Due.due("kind(0)", x.kind(0), 2);
        for (int thing = 1; thing < 12; thing++) {
            Due.due("kind(" + thing + ")", x.kind(thing), 0);
            Due.due("savedFind(" + thing + ", 0)", x.savedFind(thing, 0), ExtentFiles.BAD);
        }
        Due.due("count(0)", x.count(0), 0);
        Due.due("links(0)", x.links(0), 0);
        Due.due("next(0, -1)", x.next(0, -1), ExtentFiles.NONE);
        for (int h = 0; h < 4; h++) {
            Due.due("opened(" + h + ")", x.opened(h), ExtentFiles.NONE);
        }
        for (int name = 0; name < 64; name++) {
            Due.due("find(0, " + name + ")", x.find(0, name), ExtentFiles.NONE);
            Due.due("savedFind(0, " + name + ")", x.savedFind(0, name), ExtentFiles.NONE);
        }
        Due.due("crash(0, 0)", x.crash(0, 0), 1);

        ExtentFiles first = new ExtentFiles();
        ExtentFiles second = new ExtentFiles();
        Due.due("make on the first", first.make(0, 0, true), 1);
        Due.due("count on the second", second.count(0), 0);
        Due.end();
    }
}
