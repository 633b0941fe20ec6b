import java.lang.reflect.Method;
import java.util.Arrays;
import java.util.HashMap;
import java.util.List;
import java.util.Map;
import java.util.Random;
import java.util.TreeSet;

/**
 * Runs of 512 calls, the same every time (the seeds are fixed), made on the class and on the model.
 * The test also fails if some case of the document was never met.
 */
public final class RandomRunsTest {
    private static final int RUNS = 3000;
    private static final int CALLS = 512;
    private static final int[] STRAYS = {-1, 4, 5, 12, 13, 47, 48, 49, 63, 64, 65, Integer.MIN_VALUE, Integer.MAX_VALUE};
    private static final String[] ENTRY_CALLS = {"make", "make", "link", "unlink", "removeDir", "rename", "rename"};
    private static final String[] FILE_CALLS = {"open", "close", "fill", "fill", "cut"};
    private static final String[] SAVING_CALLS = {"sync", "idle", "crash"};
    private static final String[] QUESTIONS = {"find", "next", "count", "kind", "links", "opened", "read", "length",
        "sum", "faults", "savedFind", "savedRead"};
    private static final String[] CASES = {
        "make: dir is no directory", "make: bad name", "make: exists", "make: 20 entries", "make: 12 things",
        "make: directory", "make: file",
        "link: dir is no directory", "link: bad name", "link: no file", "link: no links", "link: exists",
        "link: 20 entries", "link: done",
        "unlink: dir is no directory", "unlink: bad name", "unlink: none", "unlink: directory", "unlink: gone",
        "unlink: links left", "unlink: still open",
        "removeDir: dir is no directory", "removeDir: bad name", "removeDir: none", "removeDir: file",
        "removeDir: not empty", "removeDir: done",
        "rename: dir is no directory", "rename: bad name", "rename: to is no directory", "rename: bad toName",
        "rename: none", "rename: same entry", "rename: other entry of the same", "rename: into itself",
        "rename: below itself", "rename: directory over file", "rename: file over directory", "rename: not empty",
        "rename: replaces directory", "rename: replaces last link", "rename: replaces link",
        "rename: moves directory", "rename: moves file",
        "find: dir is no directory", "find: bad name", "find: none", "find: found",
        "next: dir is no directory", "next: none", "next: found",
        "count: dir is no directory", "count: done",
        "kind: no thing", "kind: directory", "kind: file",
        "links: no thing", "links: root", "links: done",
        "open: no handle", "open: no file", "open: busy", "open: without links", "open: done",
        "close: no handle", "close: none", "close: gone", "close: open elsewhere", "close: has links",
        "opened: no handle", "opened: none", "opened: done",
        "fill: no file", "fill: bad at", "fill: bad many", "fill: beyond 48", "fill: with a gap", "fill: grows",
        "fill: inside",
        "read: no file", "read: no cell", "read: done",
        "length: no file", "length: done",
        "cut: no file", "cut: bad length", "cut: shorter", "cut: longer or as it was",
        "sum: no file", "sum: done", "sum: wraps",
        "sync: done", "sync: with files without links",
        "crash: bad kind", "crash: kind 0", "crash: kind 1", "crash: kind 2", "crash: kind 3", "crash: kind 4",
        "idle: done", "faults: none",
        "savedFind: dir is no directory", "savedFind: bad name", "savedFind: none", "savedFind: found",
        "savedRead: no file", "savedRead: no cell", "savedRead: done",
    };
    private static final Map<String, Method> OF_FILES = methodsOf(ExtentFiles.class);
    private static final Map<String, Method> OF_MODEL = methodsOf(Model.class);

    private final ExtentFiles files = new ExtentFiles();
    private final Model model = new Model();
    private final Random random;
    private final int usualNames;
    private final int callsPerSaving;
    private final boolean manyDirectories;

    private RandomRunsTest(int seed) {
        random = new Random(seed);
        usualNames = new int[] {3, 6, 20, 64}[random.nextInt(4)];
        callsPerSaving = new int[] {8, 40, 200}[random.nextInt(3)];
        manyDirectories = random.nextBoolean();
    }

    public static void main(String[] args) throws ReflectiveOperationException {
        TreeSet<String> met = new TreeSet<>();
        for (int seed = 1; seed <= RUNS; seed++) {
            new RandomRunsTest(seed).run("run " + seed, met);
        }
        for (String one : CASES) {
            Due.due("that the runs met the case '" + one + "'", met.contains(one));
        }
        Due.end();
    }

    private static Map<String, Method> methodsOf(Class<?> type) {
        Map<String, Method> found = new HashMap<>();
        for (Method method : type.getDeclaredMethods()) {
            found.put(method.getName(), method);
        }
        return found;
    }

    private void run(String run, TreeSet<String> met) throws ReflectiveOperationException {
        for (int made = 1; made <= CALLS; made++) {
            String call = someCall();
            Object[] arguments = argumentsFor(call);
            Object got = OF_FILES.get(call).invoke(files, arguments);
            Object want = OF_MODEL.get(call).invoke(model, arguments);
            met.add(model.why);
            if (want != null) {
                Due.due(run + ", call " + made + ": " + call + Arrays.toString(arguments), (Integer) got, (Integer) want);
                // After the first wrong answer the two are no longer in the same state.
                if (!want.equals(got)) {
                    return;
                }
            }
        }
    }

    private String someCall() {
        if (oneIn(callsPerSaving)) {
            return oneOf(SAVING_CALLS);
        }
        int choice = random.nextInt(10);
        return oneOf(choice < 4 ? ENTRY_CALLS : choice < 6 ? FILE_CALLS : QUESTIONS);
    }

    private Object[] argumentsFor(String call) {
        int dir = dir();
        switch (call) {
            case "make":
                return new Object[] {dir, name(), manyDirectories ? !oneIn(3) : oneIn(4)};
            case "link":
                return new Object[] {dir, name(), oneIn(6) ? dir() : file()};
            case "unlink": case "removeDir": case "find": case "next": case "savedFind":
                return new Object[] {dir, nameIn(dir)};
            case "rename": {
                int to = dir();
                return new Object[] {dir, nameIn(dir), to, nameIn(to)};
            }
            case "count": case "kind": case "links": case "length": case "sum":
                return new Object[] {oneIn(2) ? dir : file()};
            case "open":
                return new Object[] {handle(), oneIn(6) ? dir : file()};
            case "close": case "opened":
                return new Object[] {handle()};
            case "fill": {
                int at = cell();
                return new Object[] {oneIn(9) ? dir : file(), at, many(at), value()};
            }
            case "read": case "savedRead":
                return new Object[] {oneIn(6) ? dir : file(), cell()};
            case "cut":
                return new Object[] {oneIn(9) ? dir : file(), oneIn(9) ? stray() : random.nextInt(49)};
            case "crash":
                return new Object[] {oneIn(6) ? stray() : random.nextInt(5), random.nextInt()};
            case "idle":
                return new Object[] {random.nextInt()};
            default:
                return new Object[] {};
        }
    }

    private boolean oneIn(int many) {
        return random.nextInt(many) == 0;
    }

    private String oneOf(String[] calls) {
        return calls[random.nextInt(calls.length)];
    }

    private int stray() {
        return STRAYS[random.nextInt(STRAYS.length)];
    }

    private int among(List<Integer> numbers) {
        if (numbers.isEmpty() || oneIn(12)) {
            return oneIn(3) ? stray() : random.nextInt(12);
        }
        return numbers.get(random.nextInt(numbers.size()));
    }

    private int dir() {
        return among(model.numbers(true));
    }

    private int file() {
        return among(model.numbers(false));
    }

    private int name() {
        return oneIn(25) ? stray() : random.nextInt(usualNames);
    }

    private int nameIn(int dir) {
        List<Integer> names = model.names(dir);
        return names.isEmpty() || oneIn(5) ? name() : names.get(random.nextInt(names.size()));
    }

    private int handle() {
        return oneIn(15) ? stray() : random.nextInt(4);
    }

    private int cell() {
        return oneIn(10) ? stray() : random.nextInt(oneIn(2) ? 48 : 8);
    }

    private int many(int at) {
        if (oneIn(10)) {
            return oneIn(3) ? 0 : stray();
        }
        // Up to the last cell there can be, or one beyond it.
        if (oneIn(6)) {
            return 48 - at + random.nextInt(2);
        }
        return 1 + random.nextInt(oneIn(3) ? 48 : 6);
    }

    private int value() {
        int near = random.nextInt(60) - 30;
        return oneIn(4) ? Integer.MAX_VALUE + near : near * 7;
    }
}
