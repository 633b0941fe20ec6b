import java.util.ArrayList;
import java.util.List;
import java.util.TreeMap;

/**
 * The document told a second time, over the collections of the Java library, so that random runs
 * can be compared. After each call `why` names the sentence of the document that gave the answer.
 */
final class Model {
    private static final class Thing {
        final boolean directory;
        final TreeMap<Integer, Integer> entries = new TreeMap<>();
        final List<Integer> cells = new ArrayList<>();

        Thing(boolean directory) {
            this.directory = directory;
        }

        Thing copy() {
            Thing other = new Thing(directory);
            other.entries.putAll(entries);
            other.cells.addAll(cells);
            return other;
        }
    }

    private TreeMap<Integer, Thing> things = new TreeMap<>();
    private TreeMap<Integer, Thing> saved = new TreeMap<>();
    private final TreeMap<Integer, Integer> handles = new TreeMap<>();
    String why = "";

    Model() {
        things.put(0, new Thing(true));
        saved.put(0, new Thing(true));
    }

    List<Integer> numbers(boolean directories) {
        List<Integer> found = new ArrayList<>();
        things.forEach((number, thing) -> {
            if (thing.directory == directories) {
                found.add(number);
            }
        });
        return found;
    }

    List<Integer> names(int dir) {
        return dir(things, dir) ? new ArrayList<>(things.get(dir).entries.keySet()) : new ArrayList<>();
    }

    private int because(String reason, int answer) {
        why = reason;
        return answer;
    }

    private static boolean dir(TreeMap<Integer, Thing> in, int number) {
        return in.containsKey(number) && in.get(number).directory;
    }

    private static boolean file(TreeMap<Integer, Thing> in, int number) {
        return in.containsKey(number) && !in.get(number).directory;
    }

    private static boolean badName(int name) {
        return name < 0 || name > 63;
    }

    private int linksOf(int number) {
        int found = 0;
        for (Thing thing : things.values()) {
            for (int target : thing.entries.values()) {
                found += target == number ? 1 : 0;
            }
        }
        return found;
    }

    private int allEntries() {
        return things.values().stream().mapToInt(thing -> thing.entries.size()).sum();
    }

    private boolean goneIfUnused(int number) {
        if (linksOf(number) == 0 && !handles.containsValue(number)) {
            things.remove(number);
            return true;
        }
        return false;
    }

    int make(int dir, int name, boolean directory) {
        if (!dir(things, dir)) return because("make: dir is no directory", -1);
        if (badName(name)) return because("make: bad name", -1);
        if (things.get(dir).entries.containsKey(name)) return because("make: exists", -2);
        if (allEntries() == 20) return because("make: 20 entries", -3);
        if (things.size() == 12) return because("make: 12 things", -3);
        int number = 0;
        while (things.containsKey(number)) number++;
        things.put(number, new Thing(directory));
        things.get(dir).entries.put(name, number);
        return because(directory ? "make: directory" : "make: file", number);
    }

    int link(int dir, int name, int thing) {
        if (!dir(things, dir)) return because("link: dir is no directory", -1);
        if (badName(name)) return because("link: bad name", -1);
        if (!file(things, thing)) return because("link: no file", -1);
        if (linksOf(thing) == 0) return because("link: no links", -1);
        if (things.get(dir).entries.containsKey(name)) return because("link: exists", -2);
        if (allEntries() == 20) return because("link: 20 entries", -3);
        things.get(dir).entries.put(name, thing);
        return because("link: done", linksOf(thing));
    }

    int unlink(int dir, int name) {
        if (!dir(things, dir)) return because("unlink: dir is no directory", -1);
        if (badName(name)) return because("unlink: bad name", -1);
        Integer thing = things.get(dir).entries.get(name);
        if (thing == null) return because("unlink: none", -4);
        if (dir(things, thing)) return because("unlink: directory", -5);
        things.get(dir).entries.remove(name);
        int left = linksOf(thing);
        boolean gone = goneIfUnused(thing);
        return because(gone ? "unlink: gone" : left > 0 ? "unlink: links left" : "unlink: still open", left);
    }

    int removeDir(int dir, int name) {
        if (!dir(things, dir)) return because("removeDir: dir is no directory", -1);
        if (badName(name)) return because("removeDir: bad name", -1);
        Integer thing = things.get(dir).entries.get(name);
        if (thing == null) return because("removeDir: none", -4);
        if (file(things, thing)) return because("removeDir: file", -6);
        if (!things.get(thing).entries.isEmpty()) return because("removeDir: not empty", -7);
        things.get(dir).entries.remove(name);
        things.remove(thing);
        return because("removeDir: done", 0);
    }

    private boolean within(int number, int top) {
        if (number == top) return true;
        for (int target : things.get(top).entries.values()) {
            if (dir(things, target) && within(number, target)) return true;
        }
        return false;
    }

    int rename(int dir, int name, int to, int toName) {
        if (!dir(things, dir)) return because("rename: dir is no directory", -1);
        if (badName(name)) return because("rename: bad name", -1);
        if (!dir(things, to)) return because("rename: to is no directory", -1);
        if (badName(toName)) return because("rename: bad toName", -1);
        Integer moved = things.get(dir).entries.get(name);
        if (moved == null) return because("rename: none", -4);
        Integer old = things.get(to).entries.get(toName);
        if (moved.equals(old)) {
            boolean same = dir == to && name == toName;
            return because(same ? "rename: same entry" : "rename: other entry of the same", 0);
        }
        boolean movesDir = dir(things, moved);
        if (movesDir && within(to, moved)) {
            return because(to == moved ? "rename: into itself" : "rename: below itself", -8);
        }
        if (old != null) {
            boolean oldDir = dir(things, old);
            if (movesDir && !oldDir) return because("rename: directory over file", -6);
            if (!movesDir && oldDir) return because("rename: file over directory", -5);
            if (oldDir && !things.get(old).entries.isEmpty()) return because("rename: not empty", -7);
            things.get(to).entries.remove(toName);
            boolean gone = goneIfUnused(old);
            why = oldDir ? "rename: replaces directory" : gone ? "rename: replaces last link" : "rename: replaces link";
        } else {
            why = movesDir ? "rename: moves directory" : "rename: moves file";
        }
        things.get(dir).entries.remove(name);
        things.get(to).entries.put(toName, moved);
        return old == null ? 0 : 1;
    }

    private int findIn(TreeMap<Integer, Thing> in, String call, int dir, int name) {
        if (!dir(in, dir)) return because(call + ": dir is no directory", -1);
        if (badName(name)) return because(call + ": bad name", -1);
        Integer thing = in.get(dir).entries.get(name);
        if (thing == null) return because(call + ": none", -4);
        return because(call + ": found", thing);
    }

    int find(int dir, int name) {
        return findIn(things, "find", dir, name);
    }

    int savedFind(int dir, int name) {
        return findIn(saved, "savedFind", dir, name);
    }

    int next(int dir, int after) {
        if (!dir(things, dir)) return because("next: dir is no directory", -1);
        Integer name = things.get(dir).entries.higherKey(after);
        return name == null ? because("next: none", -4) : because("next: found", name);
    }

    int count(int dir) {
        if (!dir(things, dir)) return because("count: dir is no directory", -1);
        return because("count: done", things.get(dir).entries.size());
    }

    int kind(int thing) {
        if (!things.containsKey(thing)) return because("kind: no thing", 0);
        return dir(things, thing) ? because("kind: directory", 2) : because("kind: file", 1);
    }

    int links(int thing) {
        if (!things.containsKey(thing)) return because("links: no thing", -1);
        return because(thing == 0 ? "links: root" : "links: done", linksOf(thing));
    }

    int open(int h, int thing) {
        if (h < 0 || h > 3) return because("open: no handle", -1);
        if (!file(things, thing)) return because("open: no file", -1);
        if (handles.containsKey(h)) return because("open: busy", -9);
        handles.put(h, thing);
        return because(linksOf(thing) == 0 ? "open: without links" : "open: done", 0);
    }

    int close(int h) {
        if (h < 0 || h > 3) return because("close: no handle", -1);
        Integer thing = handles.remove(h);
        if (thing == null) return because("close: none", -4);
        if (goneIfUnused(thing)) return because("close: gone", 1);
        return because(linksOf(thing) == 0 ? "close: open elsewhere" : "close: has links", 0);
    }

    int opened(int h) {
        if (h < 0 || h > 3) return because("opened: no handle", -1);
        Integer thing = handles.get(h);
        return thing == null ? because("opened: none", -4) : because("opened: done", thing);
    }

    private static void resize(List<Integer> cells, int size) {
        while (cells.size() > size) cells.remove(cells.size() - 1);
        while (cells.size() < size) cells.add(0);
    }

    int fill(int thing, int at, int many, int value) {
        if (!file(things, thing)) return because("fill: no file", -1);
        if (at < 0 || at > 47) return because("fill: bad at", -1);
        if (many < 1 || many > 48) return because("fill: bad many", -1);
        if (at + many > 48) return because("fill: beyond 48", -1);
        List<Integer> cells = things.get(thing).cells;
        why = at > cells.size() ? "fill: with a gap" : at + many > cells.size() ? "fill: grows" : "fill: inside";
        resize(cells, Math.max(cells.size(), at + many));
        for (int i = 0; i < many; i++) cells.set(at + i, value + i);
        return cells.size();
    }

    private int readIn(TreeMap<Integer, Thing> in, String call, int thing, int at) {
        if (!file(in, thing)) return because(call + ": no file", 0);
        List<Integer> cells = in.get(thing).cells;
        if (at < 0 || at >= cells.size()) return because(call + ": no cell", 0);
        return because(call + ": done", cells.get(at));
    }

    int read(int thing, int at) {
        return readIn(things, "read", thing, at);
    }

    int savedRead(int thing, int at) {
        return readIn(saved, "savedRead", thing, at);
    }

    int length(int thing) {
        if (!file(things, thing)) return because("length: no file", -1);
        return because("length: done", things.get(thing).cells.size());
    }

    int cut(int thing, int length) {
        if (!file(things, thing)) return because("cut: no file", -1);
        if (length < 0 || length > 48) return because("cut: bad length", -1);
        List<Integer> cells = things.get(thing).cells;
        int before = cells.size();
        resize(cells, length);
        return because(length < before ? "cut: shorter" : "cut: longer or as it was", before);
    }

    int sum(int thing) {
        if (!file(things, thing)) return because("sum: no file", 0);
        long total = 0;
        int weight = 1;
        for (int cell : things.get(thing).cells) total += (long) weight++ * cell;
        return because((int) total == total ? "sum: done" : "sum: wraps", (int) total);
    }

    private static TreeMap<Integer, Thing> copy(TreeMap<Integer, Thing> from) {
        TreeMap<Integer, Thing> to = new TreeMap<>();
        from.forEach((number, thing) -> to.put(number, thing.copy()));
        return to;
    }

    int sync() {
        saved = copy(things);
        saved.keySet().removeIf(number -> file(things, number) && linksOf(number) == 0);
        return because(saved.size() < things.size() ? "sync: with files without links" : "sync: done", things.size());
    }

    int crash(int kind, int steps) {
        if (kind < 0 || kind > 4) return because("crash: bad kind", -1);
        if (kind == 2) sync();
        things = copy(saved);
        handles.clear();
        return because("crash: kind " + kind, things.size());
    }

    void idle(int steps) {
        why = "idle: done";
    }

    int faults() {
        return because("faults: none", 0);
    }
}
