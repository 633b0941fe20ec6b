import java.util.ArrayList;
import java.util.List;

/** Rows that bring a new store to an edge. */
final class Stores {
    private Stores() {
    }

    /** This many things (at most 12), in the root with the names 0, 1, ..: odd ones are directories, even ones files. */
    static String[] things(int many) {
        List<String> rows = new ArrayList<>();
        for (int thing = 1; thing < many; thing++) {
            rows.add("make(0, " + (thing - 1) + ", " + (thing % 2 == 1) + ") = " + thing);
        }
        return rows.toArray(new String[0]);
    }

    /**
     * This many entries (2 to 20) for two things: file 1 has the name 0 in the root, directory 2 the name 1;
     * of the file's further links the second, fourth and so on are in the root (names 3, 5, ..), the others
     * in the directory (names 2, 4, ..).
     */
    static String[] entries(int many) {
        List<String> rows = new ArrayList<>();
        rows.add("make(0, 0, false) = 1");
        rows.add("make(0, 1, true) = 2");
        for (int name = 2; name < many; name++) {
            rows.add("link(" + (name % 2 == 0 ? 2 : 0) + ", " + name + ", 1) = " + name);
        }
        return rows.toArray(new String[0]);
    }

    /** 12 things as above, and 20 entries: file 2 has nine further links in directory 11, names 55 to 63. */
    static String[] bothFull() {
        List<String> rows = new ArrayList<>(List.of(things(12)));
        for (int more = 1; more <= 9; more++) {
            rows.add("link(11, " + (54 + more) + ", 2) = " + (1 + more));
        }
        return rows.toArray(new String[0]);
    }

    /** Directory 1 in the root, 2 in 1, and so on to 11, each with the name 5. */
    static String[] chain() {
        List<String> rows = new ArrayList<>();
        for (int dir = 1; dir < 12; dir++) {
            rows.add("make(" + (dir - 1) + ", 5, true) = " + dir);
        }
        return rows.toArray(new String[0]);
    }

    /** Directory 1 (in the root, name 1), file 2 (in the root, name 2), file 3 (open at handle 0, without links). */
    static String[] oneOfEach() {
        return new String[] {"make(0, 1, true) = 1", "make(0, 2, false) = 2", "make(0, 3, false) = 3", "open(0, 3) = 0",
            "unlink(0, 3) = 0"};
    }
}
