import java.util.ArrayList;
import java.util.Arrays;
import java.util.List;

/** A host that has something of each kind, and CALLS of it with all that they change. */
final class Scene {
    /** HANDLES of the scene: a FILE to READ and WRITE, the CONSOLE three times, a FILE to ADD to, one to READ. */
    static final int BOTH = 1;
    static final int IN = 2;
    static final int OUT = 3;
    static final int ERR = 4;
    static final int ADD = 5;
    static final int READ = 6;
    static final int SHUT = 7;
    static final int[] NO_HANDLES = {0, SHUT, 10, 11, 12, 256 + BOTH, -1, Integer.MIN_VALUE, Integer.MIN_VALUE + BOTH};

    private final Check check;
    final Bench b = new Bench();

    Scene(Check check) {
        this.check = check;
        b.lay("a", "alpha");
        b.lay("b", "beta");
        b.lay(":tt", "a file");
        b.open("a", 2);
        b.open(":tt", 0);
        b.open(":tt", 4);
        b.open(":tt", 8);
        b.open("b", 8);
        b.open("a", 0);
        b.call(10, BOTH, 2);
        b.write(OUT, "out");
        b.write(ERR, "error");
        b.tape("input").x.type();
        b.tape("a command").x.command();
        b.x.clock(77);
        b.callAt(0, 0);
    }

    /** All up to the CALL's own STEP; what is seen there. */
    private Whole ready(int operation, int a) {
        b.x.set(10, operation);
        b.x.set(11, a);
        b.x.set(32, Bench.CODE);
        b.x.run(1);
        return new Whole(b.x);
    }

    private void make(String what, int operation, int a, int answer, String... mayChange) {
        Whole before = ready(operation, a);
        int steps = b.x.look(3);
        int calls = b.x.look(4);
        check.same(what + ": run", b.x.run(1), 1);
        check.same(what + ": answer", b.x.register(10), answer);
        check.same(what + ": PC", b.x.register(32), Bench.CODE + 12);
        check.same(what + ": STEPS", b.x.look(3), steps + 1);
        check.same(what + ": CALLS", b.x.look(4), calls + 1);
        check.same(what + ": latest", b.x.look(5), operation);
        List<String> allowed = new ArrayList<>(Arrays.asList(mayChange));
        allowed.addAll(List.of("register 10", "register 32", "look 3", "look 4", "look 5"));
        check.same(what + ": what else changed",
                new Whole(b.x).changedSince(before, allowed.toArray(new String[0])), "");
    }

    /** The CALL FAILS with e, answers as told, and nothing else happens. */
    Scene failsAt(String what, int e, int answer, int operation, int a) {
        // Another ERRNO first, so that the new one is seen.
        b.callAt(e == 38 ? 3 : 0, -1);
        make(what, operation, a, answer, "look 2");
        check.same(what + ": ERRNO", b.errno(), e);
        return this;
    }

    /** The same with FIELDS. */
    Scene fails(String what, int e, int operation, int... fields) {
        b.words(Bench.BLOCK, fields);
        return failsAt(what, e, -1, operation, Bench.BLOCK);
    }

    /** A READ or a WRITE that FAILS answers its n. */
    Scene failsWithN(String what, int e, int operation, int h, int place, int n) {
        b.words(Bench.BLOCK, h, place, n);
        return failsAt(what, e, n, operation, Bench.BLOCK);
    }

    /** The CALL does not FAIL: it answers as told, ERRNO stays, and nothing changes but what is named. */
    Scene answersAt(String what, int answer, int operation, int a, String... mayChange) {
        make(what, operation, a, answer, mayChange);
        return this;
    }

    /** Puts FIELDS, for an answersAt() behind it. */
    Scene fields(int... fields) {
        b.words(Bench.BLOCK, fields);
        return this;
    }

    Scene name(int place, String name) {
        b.bytes(place, name);
        return this;
    }
}
