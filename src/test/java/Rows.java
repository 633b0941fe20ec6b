import java.lang.reflect.Method;
import java.util.ArrayList;
import java.util.HashMap;
import java.util.List;
import java.util.Map;
import java.util.Set;
import java.util.regex.Matcher;
import java.util.regex.Pattern;

/**
 * Calls on one new object, each written as a row "make(0, 63, true) = 1" with the answer that is due.
 * After each refused call and each question it is also checked that nothing has changed.
 */
final class Rows {
    static final int MIN = Integer.MIN_VALUE;
    static final int MAX = Integer.MAX_VALUE;
    /** Numbers that no thing can have, with those next to the ones that it can. */
    static final int[] NO_NUMBERS = {MIN, MIN + 1, -64, -12, -1, 12, 13, 64, MAX - 1, MAX};
    static final int[] NO_NAMES = {MIN, MIN + 1, -64, -1, 64, 65, 128, MAX - 1, MAX};
    static final int[] NO_HANDLES = {MIN, MIN + 1, -4, -1, 4, 5, 12, MAX - 1, MAX};
    static final int[] ANY_INTS = {MIN, MIN + 1, -1, 0, 1, 57, MAX - 1, MAX};

    private static final int MOST_CALLS = 512;
    private static final Pattern ROW = Pattern.compile("(\\w+)\\(([^()]*)\\)(?: = (-?\\w+))?");
    private static final Set<String> QUESTIONS = Set.of("find", "next", "count", "kind", "links", "opened", "read",
        "length", "sum", "idle", "faults", "savedFind", "savedRead");
    private static final Map<String, Method> METHODS = methods();

    private final String sentence;
    private final ExtentFiles files = new ExtentFiles();
    private final List<String> changes = new ArrayList<>();
    private List<Integer> before = null;
    private int made = 0;

    /** The sentence is the document's, or says which case of it the rows are about. */
    Rows(String sentence) {
        this.sentence = sentence;
    }

    Rows row(String... rows) {
        for (String row : rows) {
            call(row, changesNothing(row));
        }
        return this;
    }

    /** One row for each value, which stands where the row has a question mark. */
    Rows each(String row, int... values) {
        for (int value : values) {
            row(row.replace("?", Integer.toString(value)));
        }
        return this;
    }

    /** Calls that are not refused, and change nothing all the same. */
    Rows unchanged(String... rows) {
        for (String row : rows) {
            call(row, true);
        }
        return this;
    }

    private void call(String row, boolean unchanged) {
        made++;
        if (made > MOST_CALLS || changes.size() + 1 + Answers.MOST_CALLS > MOST_CALLS) {
            throw new IllegalStateException("too many calls on one object: " + sentence);
        }
        String label = sentence + " | call " + made + ": " + row;
        Matcher parts = parts(row);
        int got = invoke(files, parts);
        if (!parts.group(1).equals("idle")) {
            Due.due(label, got, number(parts.group(3)));
        }
        if (unchanged) {
            checkUnchanged(label, row);
        } else {
            changes.add(row);
            before = null;
        }
    }

    private void checkUnchanged(String label, String row) {
        if (before == null) {
            before = Answers.of(() -> store(null));
        }
        Due.due(label + ": that nothing has changed after it", Answers.of(() -> store(row)).equals(before));
    }

    private ExtentFiles store(String last) {
        ExtentFiles x = new ExtentFiles();
        for (String row : changes) {
            invoke(x, parts(row));
        }
        if (last != null) {
            invoke(x, parts(last));
        }
        return x;
    }

    private static boolean changesNothing(String row) {
        Matcher parts = parts(row);
        return QUESTIONS.contains(parts.group(1)) || number(parts.group(3)) < 0;
    }

    private static Matcher parts(String row) {
        Matcher parts = ROW.matcher(row);
        if (!parts.matches() || !METHODS.containsKey(parts.group(1))
            || parts.group(1).equals("idle") != (parts.group(3) == null)) {
            throw new IllegalArgumentException("not a row: " + row);
        }
        return parts;
    }

    private static int invoke(ExtentFiles on, Matcher parts) {
        String[] words = parts.group(2).isEmpty() ? new String[0] : parts.group(2).split(", *");
        Object[] arguments = new Object[words.length];
        for (int i = 0; i < words.length; i++) {
            boolean truth = words[i].equals("true") || words[i].equals("false");
            arguments[i] = truth ? (Object) Boolean.valueOf(words[i]) : (Object) number(words[i]);
        }
        try {
            Object answer = METHODS.get(parts.group(1)).invoke(on, arguments);
            return answer == null ? 0 : (Integer) answer;
        } catch (ReflectiveOperationException wrong) {
            throw new IllegalStateException(parts.group(), wrong);
        }
    }

    private static int number(String word) {
        switch (word) {
            case "MIN": return MIN;
            case "MAX": return MAX;
            case "BAD": return -1;
            case "EXISTS": return -2;
            case "FULL": return -3;
            case "NONE": return -4;
            case "IS_DIR": return -5;
            case "NOT_DIR": return -6;
            case "NOT_EMPTY": return -7;
            case "LOOP": return -8;
            case "BUSY": return -9;
            default: return Integer.parseInt(word);
        }
    }

    private static Map<String, Method> methods() {
        Map<String, Method> found = new HashMap<>();
        for (Method method : ExtentFiles.class.getDeclaredMethods()) {
            found.put(method.getName(), method);
        }
        return found;
    }
}
