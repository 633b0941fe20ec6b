/** A small file system that comes through crashes. */
public final class ExtentFiles {
    public static final int BAD = -1;
    public static final int EXISTS = -2;
    public static final int FULL = -3;
    public static final int NONE = -4;
    public static final int IS_DIR = -5;
    public static final int NOT_DIR = -6;
    public static final int NOT_EMPTY = -7;
    public static final int LOOP = -8;
    public static final int BUSY = -9;

    private static final int THINGS = 12;
    private static final int NAMES = 64;
    private static final int CELLS = 48;
    private static final int HANDLES = 4;
    private static final int MOST_ENTRIES = 20;
    private static final int ALL_SLOTS = THINGS * NAMES;
    private static final int ALL_CELLS = THINGS * CELLS;

    private static final int ABSENT = 0;
    private static final int FILE = 1;
    private static final int DIRECTORY = 2;

    private static final int ROOT = 0;
    // The root is in no entry and open at no handle, so there its number can stand for none.
    private static final int NO_THING = 0;

    private static final int GREATEST_CRASH_KIND = 4;
    private static final int CRASH_AFTER_SAVING = 2;

    private final int[] kinds = new int[THINGS];
    // Every directory has a slot for every name, which holds the thing that has the name there.
    private final int[] slots = new int[ALL_SLOTS];
    // A thing that is no file has length 0, and cells from a file's length on are 0:
    // so a file that is made or grows finds its new cells as they must be.
    private final int[] lengths = new int[THINGS];
    private final int[] cells = new int[ALL_CELLS];
    private final int[] handles = new int[HANDLES];

    private final int[] savedKinds = new int[THINGS];
    private final int[] savedSlots = new int[ALL_SLOTS];
    private final int[] savedLengths = new int[THINGS];
    private final int[] savedCells = new int[ALL_CELLS];

    public ExtentFiles() {
        kinds[ROOT] = DIRECTORY;
        savedKinds[ROOT] = DIRECTORY;
    }

    public int make(int dir, int name, boolean directory) {
        if (!isPlace(kinds, dir, name)) {
            return BAD;
        }
        int slot = slotOf(dir, name);
        if (slots[slot] != NO_THING) {
            return EXISTS;
        }
        if (allEntries(slots) >= MOST_ENTRIES) {
            return FULL;
        }
        int thing = leastFreeNumber();
        if (thing >= THINGS) {
            return FULL;
        }
        kinds[thing] = directory ? DIRECTORY : FILE;
        slots[slot] = thing;
        return thing;
    }

    public int link(int dir, int name, int thing) {
        if (!isPlace(kinds, dir, name) || !isFile(kinds, thing)) {
            return BAD;
        }
        if (entriesFor(slots, thing) == 0) {
            return BAD;
        }
        int slot = slotOf(dir, name);
        if (slots[slot] != NO_THING) {
            return EXISTS;
        }
        if (allEntries(slots) >= MOST_ENTRIES) {
            return FULL;
        }
        slots[slot] = thing;
        return entriesFor(slots, thing);
    }

    public int unlink(int dir, int name) {
        if (!isPlace(kinds, dir, name)) {
            return BAD;
        }
        int slot = slotOf(dir, name);
        int thing = slots[slot];
        if (thing == NO_THING) {
            return NONE;
        }
        if (isDirectory(kinds, thing)) {
            return IS_DIR;
        }
        slots[slot] = NO_THING;
        dropIfUnused(thing);
        return entriesFor(slots, thing);
    }

    public int removeDir(int dir, int name) {
        if (!isPlace(kinds, dir, name)) {
            return BAD;
        }
        int slot = slotOf(dir, name);
        int thing = slots[slot];
        if (thing == NO_THING) {
            return NONE;
        }
        if (isFile(kinds, thing)) {
            return NOT_DIR;
        }
        if (entriesIn(thing) > 0) {
            return NOT_EMPTY;
        }
        slots[slot] = NO_THING;
        dropIfUnused(thing);
        return 0;
    }

    public int rename(int dir, int name, int to, int toName) {
        if (!isPlace(kinds, dir, name) || !isPlace(kinds, to, toName)) {
            return BAD;
        }
        int slot = slotOf(dir, name);
        int moved = slots[slot];
        if (moved == NO_THING) {
            return NONE;
        }
        int toSlot = slotOf(to, toName);
        int replaced = slots[toSlot];
        if (replaced == moved) {
            return 0;
        }
        int refusal = renameRefusal(moved, to, replaced);
        if (refusal < 0) {
            return refusal;
        }
        slots[slot] = NO_THING;
        slots[toSlot] = moved;
        if (replaced == NO_THING) {
            return 0;
        }
        dropIfUnused(replaced);
        return 1;
    }

    public int find(int dir, int name) {
        return thingAt(kinds, slots, dir, name);
    }

    public int next(int dir, int after) {
        if (!isDirectory(kinds, dir)) {
            return BAD;
        }
        for (int name = 0; name < NAMES; name++) {
            if (name > after && slots[slotOf(dir, name)] != NO_THING) {
                return name;
            }
        }
        return NONE;
    }

    public int count(int dir) {
        return isDirectory(kinds, dir) ? entriesIn(dir) : BAD;
    }

    public int kind(int thing) {
        return isNumber(thing) ? kinds[thing] : ABSENT;
    }

    public int links(int thing) {
        if (!isNumber(thing) || kinds[thing] == ABSENT) {
            return BAD;
        }
        return entriesFor(slots, thing);
    }

    public int open(int h, int thing) {
        if (!isHandle(h) || !isFile(kinds, thing)) {
            return BAD;
        }
        if (handles[h] != NO_THING) {
            return BUSY;
        }
        handles[h] = thing;
        return 0;
    }

    public int close(int h) {
        if (!isHandle(h)) {
            return BAD;
        }
        int file = handles[h];
        if (file == NO_THING) {
            return NONE;
        }
        handles[h] = NO_THING;
        dropIfUnused(file);
        return kinds[file] == ABSENT ? 1 : 0;
    }

    public int opened(int h) {
        if (!isHandle(h)) {
            return BAD;
        }
        return handles[h] == NO_THING ? NONE : handles[h];
    }

    public int fill(int thing, int at, int many, int value) {
        if (!isFile(kinds, thing) || at < 0 || at >= CELLS) {
            return BAD;
        }
        if (many < 1 || many > CELLS || at + many > CELLS) {
            return BAD;
        }
        if (lengths[thing] < at + many) {
            setLength(thing, at + many);
        }
        int first = thing * CELLS + at;
        for (int i = 0; i < many; i++) {
            cells[first + i] = value + i;
        }
        return lengths[thing];
    }

    public int read(int thing, int at) {
        return cellAt(lengths, cells, thing, at);
    }

    public int length(int thing) {
        return isFile(kinds, thing) ? lengths[thing] : BAD;
    }

    public int cut(int thing, int length) {
        if (!isFile(kinds, thing) || length < 0 || length > CELLS) {
            return BAD;
        }
        int before = lengths[thing];
        setLength(thing, length);
        return before;
    }

    public int sum(int thing) {
        if (!isFile(kinds, thing)) {
            return 0;
        }
        int total = 0;
        for (int i = 0; i < lengths[thing]; i++) {
            total += (i + 1) * cells[thing * CELLS + i];
        }
        return total;
    }

    public int sync() {
        save();
        return thingsThere();
    }

    public int crash(int kind, int steps) {
        if (kind < 0 || kind > GREATEST_CRASH_KIND) {
            return BAD;
        }
        // A saving that is cut short saves nothing, and coming up twice is as coming up once.
        if (kind == CRASH_AFTER_SAVING) {
            save();
        }
        goBackToSaved();
        return thingsThere();
    }

    public void idle(int steps) {
        // The store holds nothing that could be put in better order.
    }

    public int faults() {
        int inPresent = entryFaults(kinds, slots) + treeFaults(kinds, slots) + cellFaults(kinds, lengths, cells);
        int inSaved = entryFaults(savedKinds, savedSlots) + treeFaults(savedKinds, savedSlots)
                + cellFaults(savedKinds, savedLengths, savedCells);
        return inPresent + inSaved + handleFaults() + unusedFaults();
    }

    public int savedFind(int dir, int name) {
        return thingAt(savedKinds, savedSlots, dir, name);
    }

    public int savedRead(int thing, int at) {
        return cellAt(savedLengths, savedCells, thing, at);
    }

    private static boolean isNumber(int thing) {
        return thing >= 0 && thing < THINGS;
    }

    private static boolean isHandle(int h) {
        return h >= 0 && h < HANDLES;
    }

    private static boolean isFile(int[] kindOf, int thing) {
        return isNumber(thing) && kindOf[thing] == FILE;
    }

    private static boolean isDirectory(int[] kindOf, int thing) {
        return isNumber(thing) && kindOf[thing] == DIRECTORY;
    }

    private static boolean isPlace(int[] kindOf, int dir, int name) {
        return isDirectory(kindOf, dir) && name >= 0 && name < NAMES;
    }

    private static int slotOf(int dir, int name) {
        return dir * NAMES + name;
    }

    private static int thingAt(int[] kindOf, int[] inSlot, int dir, int name) {
        if (!isPlace(kindOf, dir, name)) {
            return BAD;
        }
        int thing = inSlot[slotOf(dir, name)];
        return thing == NO_THING ? NONE : thing;
    }

    private static int cellAt(int[] lengthOf, int[] inCell, int thing, int at) {
        if (!isNumber(thing) || at < 0 || at >= lengthOf[thing]) {
            return 0;
        }
        return inCell[thing * CELLS + at];
    }

    private static int allEntries(int[] inSlot) {
        int total = 0;
        for (int slot = 0; slot < ALL_SLOTS; slot++) {
            if (inSlot[slot] != NO_THING) {
                total++;
            }
        }
        return total;
    }

    private static int entriesFor(int[] inSlot, int thing) {
        // Empty slots hold the root's number, and are no entries for it.
        if (thing == ROOT) {
            return 0;
        }
        int total = 0;
        for (int slot = 0; slot < ALL_SLOTS; slot++) {
            if (inSlot[slot] == thing) {
                total++;
            }
        }
        return total;
    }

    private int entriesIn(int dir) {
        int total = 0;
        for (int name = 0; name < NAMES; name++) {
            if (slots[slotOf(dir, name)] != NO_THING) {
                total++;
            }
        }
        return total;
    }

    private int leastFreeNumber() {
        for (int thing = 0; thing < THINGS; thing++) {
            if (kinds[thing] == ABSENT) {
                return thing;
            }
        }
        return THINGS;
    }

    private int thingsThere() {
        int total = 0;
        for (int thing = 0; thing < THINGS; thing++) {
            if (kinds[thing] != ABSENT) {
                total++;
            }
        }
        return total;
    }

    private boolean isOpen(int file) {
        for (int h = 0; h < HANDLES; h++) {
            if (handles[h] == file) {
                return true;
            }
        }
        return false;
    }

    /** For a thing other than the root, after it has lost an entry or a handle. */
    private void dropIfUnused(int thing) {
        if (entriesFor(slots, thing) > 0 || isOpen(thing)) {
            return;
        }
        setLength(thing, 0);
        kinds[thing] = ABSENT;
    }

    private void setLength(int file, int length) {
        for (int at = length; at < CELLS; at++) {
            cells[file * CELLS + at] = 0;
        }
        lengths[file] = length;
    }

    /** Answers 0 if nothing speaks against the move; replaced may be NO_THING. */
    private int renameRefusal(int moved, int to, int replaced) {
        boolean movesDirectory = isDirectory(kinds, moved);
        if (movesDirectory && isOrLiesBelow(slots, to, moved)) {
            return LOOP;
        }
        if (replaced == NO_THING) {
            return 0;
        }
        boolean replacesDirectory = isDirectory(kinds, replaced);
        if (movesDirectory && !replacesDirectory) {
            return NOT_DIR;
        }
        if (!movesDirectory && replacesDirectory) {
            return IS_DIR;
        }
        return replacesDirectory && entriesIn(replaced) > 0 ? NOT_EMPTY : 0;
    }

    private static boolean isOrLiesBelow(int[] inSlot, int dir, int above) {
        int reached = dir;
        for (int step = 0; step < THINGS; step++) {
            if (reached == above) {
                return true;
            }
            if (reached == ROOT) {
                return false;
            }
            reached = parentOf(inSlot, reached);
        }
        return false;
    }

    private static int parentOf(int[] inSlot, int dir) {
        for (int slot = 0; slot < ALL_SLOTS; slot++) {
            if (inSlot[slot] == dir) {
                return slot / NAMES;
            }
        }
        return ROOT;
    }

    private void save() {
        copy(kinds, savedKinds, THINGS);
        copy(slots, savedSlots, ALL_SLOTS);
        copy(lengths, savedLengths, THINGS);
        copy(cells, savedCells, ALL_CELLS);
        for (int thing = 0; thing < THINGS; thing++) {
            if (isFile(kinds, thing) && entriesFor(slots, thing) == 0) {
                leaveOutOfSaved(thing);
            }
        }
    }

    private void leaveOutOfSaved(int file) {
        savedKinds[file] = ABSENT;
        savedLengths[file] = 0;
        for (int at = 0; at < CELLS; at++) {
            savedCells[file * CELLS + at] = 0;
        }
    }

    private void goBackToSaved() {
        copy(savedKinds, kinds, THINGS);
        copy(savedSlots, slots, ALL_SLOTS);
        copy(savedLengths, lengths, THINGS);
        copy(savedCells, cells, ALL_CELLS);
        for (int h = 0; h < HANDLES; h++) {
            handles[h] = NO_THING;
        }
    }

    private static void copy(int[] from, int[] to, int many) {
        for (int i = 0; i < many; i++) {
            to[i] = from[i];
        }
    }

    private static int entryFaults(int[] kindOf, int[] inSlot) {
        int found = allEntries(inSlot) > MOST_ENTRIES ? 1 : 0;
        for (int slot = 0; slot < ALL_SLOTS; slot++) {
            int thing = inSlot[slot];
            if (thing == NO_THING) {
                continue;
            }
            boolean leadsToThing = isFile(kindOf, thing) || isDirectory(kindOf, thing);
            if (!leadsToThing || !isDirectory(kindOf, slot / NAMES)) {
                found++;
            }
        }
        return found;
    }

    private static int treeFaults(int[] kindOf, int[] inSlot) {
        int found = isDirectory(kindOf, ROOT) ? 0 : 1;
        for (int thing = ROOT + 1; thing < THINGS; thing++) {
            if (!isDirectory(kindOf, thing)) {
                continue;
            }
            if (entriesFor(inSlot, thing) != 1 || !isOrLiesBelow(inSlot, thing, ROOT)) {
                found++;
            }
        }
        return found;
    }

    private static int cellFaults(int[] kindOf, int[] lengthOf, int[] inCell) {
        int found = 0;
        for (int thing = 0; thing < THINGS; thing++) {
            int most = isFile(kindOf, thing) ? CELLS : 0;
            if (lengthOf[thing] < 0 || lengthOf[thing] > most) {
                found++;
            }
            for (int at = 0; at < CELLS; at++) {
                if (at >= lengthOf[thing] && inCell[thing * CELLS + at] != 0) {
                    found++;
                }
            }
        }
        return found;
    }

    private int handleFaults() {
        int found = 0;
        for (int h = 0; h < HANDLES; h++) {
            if (handles[h] != NO_THING && !isFile(kinds, handles[h])) {
                found++;
            }
        }
        return found;
    }

    /** Files that should be gone: without links and not open, or without links in the saved state. */
    private int unusedFaults() {
        int found = 0;
        for (int thing = 0; thing < THINGS; thing++) {
            if (isFile(kinds, thing) && entriesFor(slots, thing) == 0 && !isOpen(thing)) {
                found++;
            }
            if (isFile(savedKinds, thing) && entriesFor(savedSlots, thing) == 0) {
                found++;
            }
        }
        return found;
    }
}
