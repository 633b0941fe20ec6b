import java.util.ArrayList;
import java.util.List;
import java.util.function.Supplier;

/**
 * What a store answers to every question, before and after a crash, and to the calls that show how
 * full it is. Stores that answer all of this alike are in the same state, as far as it can be seen.
 */
final class Answers {
    /** The most calls made here on one object; with those that build the store it must stay below 512. */
    static final int MOST_CALLS = 300;

    private final Supplier<ExtentFiles> store;
    private final List<Integer> found = new ArrayList<>();

    private Answers(Supplier<ExtentFiles> store) {
        this.store = store;
    }

    static List<Integer> of(Supplier<ExtentFiles> store) {
        List<Integer> all = new Answers(store).all();
        all.addAll(new Answers(() -> crashed(store)).all());
        return all;
    }

    private static ExtentFiles crashed(Supplier<ExtentFiles> store) {
        ExtentFiles x = store.get();
        x.crash(0, 0);
        return x;
    }

    private List<Integer> all() {
        things(store.get());
        room(store.get());
        handles(store.get());
        for (int thing = 0; thing < 12; thing++) {
            cells(store.get(), thing);
        }
        return found;
    }

    private void things(ExtentFiles x) {
        for (int thing = 0; thing < 12; thing++) {
            found.add(x.kind(thing));
            found.add(x.links(thing));
            found.add(x.length(thing));
            found.add(x.sum(thing));
            found.add(x.count(thing));
            entries(x, thing);
        }
        found.add(x.faults());
        found.add(x.sync());
    }

    private void entries(ExtentFiles x, int dir) {
        for (int name = x.next(dir, -1); name >= 0; name = x.next(dir, name)) {
            found.add(name);
            found.add(x.find(dir, name));
        }
    }

    /** How many things and entries there is room for shows what is counted inside. */
    private void room(ExtentFiles x) {
        for (int name = 0; name < 64; name++) {
            found.add(x.make(0, name, false));
        }
        int file = linkedFile(x);
        for (int name = 0; name < 64; name++) {
            found.add(x.link(0, name, file));
        }
    }

    private static int linkedFile(ExtentFiles x) {
        for (int thing = 1; thing < 12; thing++) {
            if (x.kind(thing) == 1 && x.links(thing) > 0) {
                return thing;
            }
        }
        return 0;
    }

    private void handles(ExtentFiles x) {
        for (int h = 0; h < 4; h++) {
            found.add(x.opened(h));
        }
        for (int h = 0; h < 4; h++) {
            found.add(x.close(h));
        }
        found.add(x.sync());
    }

    private void cells(ExtentFiles x, int thing) {
        int length = x.length(thing);
        for (int at = 0; at < length; at++) {
            found.add(x.read(thing, at));
        }
    }
}
