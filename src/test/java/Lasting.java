import java.util.ArrayList;
import java.util.List;

/**
 * A HostBench that may be asked as often as a test likes. The document promises nothing about an object
 * behind its 512th call: ahead of that a new object takes its place, to which the calls that change
 * something are made once more, but not those that only look.
 */
final class Lasting {
    private static final int MOST = 512;

    private interface Change {
        void make(HostBench object);
    }

    private final List<Change> changes = new ArrayList<>();
    private HostBench object = new HostBench();
    private int uses = 0;

    /** The object as it is, for a test that counts its calls itself. */
    HostBench object() {
        return object;
    }

    private HostBench looked() {
        if (uses == MOST) {
            startAgain();
        }
        uses++;
        return object;
    }

    private HostBench changed(Change change) {
        HostBench before = looked();
        changes.add(change);
        if (changes.size() >= MOST) {
            throw new AssertionError("a test that makes more calls than the document allows");
        }
        return before;
    }

    private void startAgain() {
        object = new HostBench();
        uses = changes.size();
        for (Change change : changes) {
            try {
                change.make(object);
            } catch (RuntimeException e) {
                // It threw the first time too, and the test has seen that.
                continue;
            }
        }
    }

    int feed(int a, int b, int c, int d, int e) {
        return changed(x -> x.feed(a, b, c, d, e)).feed(a, b, c, d, e);
    }

    boolean end(int n) {
        return changed(x -> x.end(n)).end(n);
    }

    int put(int place) {
        return changed(x -> x.put(place)).put(place);
    }

    int lay() {
        return changed(x -> x.lay()).lay();
    }

    int type() {
        return changed(x -> x.type()).type();
    }

    int command() {
        return changed(x -> x.command()).command();
    }

    void clock(int seconds) {
        changed(x -> x.clock(seconds)).clock(seconds);
    }

    void begin() {
        changed(x -> x.begin()).begin();
    }

    int run(int steps) {
        return changed(x -> x.run(steps)).run(steps);
    }

    boolean set(int r, int v) {
        return changed(x -> x.set(r, v)).set(r, v);
    }

    int state() {
        return looked().state();
    }

    int look(int what) {
        return looked().look(what);
    }

    int register(int r) {
        return looked().register(r);
    }

    int peek(int place) {
        return looked().peek(place);
    }

    int files() {
        return looked().files();
    }

    int file(int k, int what) {
        return looked().file(k, what);
    }

    int fileByte(int k, int i, boolean named) {
        return looked().fileByte(k, i, named);
    }

    int handle(int h, int what) {
        return looked().handle(h, what);
    }

    int printed(int which) {
        return looked().printed(which);
    }

    int print(int which, int i) {
        return looked().print(which, i);
    }
}
