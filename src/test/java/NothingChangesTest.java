import java.util.List;
import java.util.function.Supplier;
import java.util.function.ToIntFunction;

/**
 * Refused calls and questions change nothing, in the present or in the saved state:
 * an object on which one was made answers as its twin on which none was.
 */
public final class NothingChangesTest {
    public static void main(String[] args) {
        refused("make in a file", busyWorld(), x -> x.make(2, 5, false), ExtentFiles.BAD);
        refused("make, exists", busyWorld(), x -> x.make(0, 1, false), ExtentFiles.EXISTS);
        refused("make, 20 entries", fullWorld(), x -> x.make(0, 60, false), ExtentFiles.FULL);
        refused("make, 12 things", manyThings(), x -> x.make(0, 60, true), ExtentFiles.FULL);
        refused("link of a file without links", busyWorld(), x -> x.link(0, 60, 5), ExtentFiles.BAD);
        refused("link, exists", busyWorld(), x -> x.link(0, 1, 2), ExtentFiles.EXISTS);
        refused("link, 20 entries", fullWorld(), x -> x.link(0, 60, 1), ExtentFiles.FULL);
        refused("unlink, bad name", busyWorld(), x -> x.unlink(0, 64), ExtentFiles.BAD);
        refused("unlink, none", busyWorld(), x -> x.unlink(0, 60), ExtentFiles.NONE);
        refused("unlink of a directory", busyWorld(), x -> x.unlink(1, 4), ExtentFiles.IS_DIR);
        refused("removeDir of none", busyWorld(), x -> x.removeDir(0, 60), ExtentFiles.NONE);
        refused("removeDir of a file", busyWorld(), x -> x.removeDir(0, 2), ExtentFiles.NOT_DIR);
        refused("removeDir with entries", busyWorld(), x -> x.removeDir(0, 1), ExtentFiles.NOT_EMPTY);
        refused("rename, bad", busyWorld(), x -> x.rename(0, 1, 2, 5), ExtentFiles.BAD);
        refused("rename, none", busyWorld(), x -> x.rename(0, 60, 0, 1), ExtentFiles.NONE);
        refused("rename, loop", busyWorld(), x -> x.rename(0, 1, 3, 60), ExtentFiles.LOOP);
        refused("rename of a directory over a file", busyWorld(), x -> x.rename(1, 4, 0, 2), ExtentFiles.NOT_DIR);
        refused("rename of a file over a directory", busyWorld(), x -> x.rename(0, 2, 1, 4), ExtentFiles.IS_DIR);
        refused("rename over entries", busyWorld(), x -> x.rename(1, 4, 0, 1), ExtentFiles.NOT_EMPTY);
        refused("open at no handle", busyWorld(), x -> x.open(4, 2), ExtentFiles.BAD);
        refused("open of a directory", busyWorld(), x -> x.open(0, 1), ExtentFiles.BAD);
        refused("open, busy", busyWorld(), x -> x.open(1, 2), ExtentFiles.BUSY);
        refused("close of no handle", busyWorld(), x -> x.close(4), ExtentFiles.BAD);
        refused("close of none", busyWorld(), x -> x.close(0), ExtentFiles.NONE);
        refused("fill beyond the end", busyWorld(), x -> x.fill(2, 40, 9, 1), ExtentFiles.BAD);
        refused("fill of a directory", busyWorld(), x -> x.fill(1, 0, 9, 1), ExtentFiles.BAD);
        refused("cut to 49", busyWorld(), x -> x.cut(2, 49), ExtentFiles.BAD);
        refused("crash of no kind", busyWorld(), x -> x.crash(5, 0), ExtentFiles.BAD);

        unchanged("rename to the same entry", busyWorld(), x -> x.rename(0, 1, 0, 1));
        unchanged("rename to another link", busyWorld(), x -> x.rename(0, 2, 1, 6));
        unchanged("idle", busyWorld(), x -> {
            x.idle(99);
            return 0;
        });
        unchanged("find", busyWorld(), x -> x.find(1, 4));
        unchanged("next", busyWorld(), x -> x.next(0, -1));
        unchanged("count", busyWorld(), x -> x.count(1));
        unchanged("kind", busyWorld(), x -> x.kind(11));
        unchanged("links", busyWorld(), x -> x.links(2));
        unchanged("opened", busyWorld(), x -> x.opened(1));
        unchanged("read", busyWorld(), x -> x.read(2, 47));
        unchanged("length", busyWorld(), x -> x.length(5));
        unchanged("sum", busyWorld(), x -> x.sum(2));
        unchanged("faults", busyWorld(), ExtentFiles::faults);
        unchanged("savedFind", busyWorld(), x -> x.savedFind(0, 1));
        unchanged("savedRead", busyWorld(), x -> x.savedRead(2, 0));
        Due.end();
    }

    /** Directories 1, 3 (in 1) and 4, file 2 with two links, file 5 open without links; 1, 2 and 3 are saved, as they were. */
    private static Supplier<ExtentFiles> busyWorld() {
        return () -> {
            ExtentFiles x = new ExtentFiles();
            x.make(0, 1, true);
            x.make(0, 2, false);
            x.make(1, 4, true);
            x.fill(2, 0, 3, 30);
            x.sync();
            x.link(1, 6, 2);
            x.fill(2, 1, 4, 70);
            x.make(0, 8, true);
            x.make(3, 9, false);
            x.fill(5, 0, 2, 11);
            x.open(1, 5);
            x.open(3, 2);
            x.unlink(3, 9);
            return x;
        };
    }

    private static Supplier<ExtentFiles> fullWorld() {
        return () -> {
            ExtentFiles x = new ExtentFiles();
            x.make(0, 0, false);
            x.sync();
            for (int name = 1; name < 20; name++) {
                x.link(0, name, 1);
            }
            return x;
        };
    }

    private static Supplier<ExtentFiles> manyThings() {
        return () -> {
            ExtentFiles x = new ExtentFiles();
            for (int i = 1; i < 12; i++) {
                x.make(0, i, i % 2 == 0);
            }
            return x;
        };
    }

    private static void refused(String what, Supplier<ExtentFiles> world, ToIntFunction<ExtentFiles> call, int due) {
        Due.due(what, call.applyAsInt(world.get()), due);
        unchanged(what, world, call);
    }

    private static void unchanged(String what, Supplier<ExtentFiles> world, ToIntFunction<ExtentFiles> call) {
        List<Integer> due = Answers.of(world);
        List<Integer> got = Answers.of(() -> {
            ExtentFiles touched = world.get();
            call.applyAsInt(touched);
            return touched;
        });
        Due.due("that '" + what + "' changes nothing", got.equals(due));
    }
}
