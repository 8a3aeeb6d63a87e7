import java.util.NoSuchElementException;

/** Term 4 and promises 1 to 21, sentence by sentence: boundary cases, and what a refused call leaves. */
public final class FaceEdgeTest {
    private static final Check check = new Check("FaceEdgeTest");
    private static final int LEAST = Integer.MIN_VALUE;
    private static final int MOST = Integer.MAX_VALUE;
    private static final String TAPE = "what lies on the tape";

    private FaceEdgeTest() {
    }

    public static void main(String[] args) {
        newObject();
        feed();
        feedLimit();
        end();
        put();
        putRefused();
        lay();
        layRefused();
        layOrder();
        type();
        command();
        clock();
        begin();
        run();
        runRefused();
        state();
        look();
        lookOfTheEnd();
        register();
        set();
        setOfOneThatIsStopped();
        peek();
        files();
        file();
        fileOrder();
        fileByte();
        handle();
        printed();
        print();
        looksChangeNothing();
        check.finish();
    }

    private static Bench scene() {
        return new Scene(check).b;
    }

    /** A call that throws: what can be seen is as it was. */
    private static void refuses(String what, Class<? extends RuntimeException> due, Bench b, Check.Call call) {
        Whole before = new Whole(b.x);
        check.fails(what, due, call);
        check.same(what + ": what changed", new Whole(b.x).changedSince(before), "");
    }

    /** A call that throws and uses the TAPE up. */
    private static void refusesTape(String what, Class<? extends RuntimeException> due, Bench b, String tape,
            Check.Call call) {
        b.tape(tape);
        refuses(what, due, b, call);
        tapeIs(what, b, "");
    }

    /** What the TAPE has; it is used up, and the MEMORY from 8000 on with it. */
    private static void tapeIs(String what, Bench b, String due) {
        check.isFalse(what + ": a TAPE of more than " + due.length(), b.x.end(due.length() + 1));
        check.isTrue(what + ": a TAPE of " + due.length(), b.x.end(due.length()));
        check.same(what + ": put", b.x.put(8000), due.length());
        check.same(what + ": the TAPE", b.memory(8000, due.length()), due);
    }

    private static void newObject() {
        check.about("All as told at first; no FILES, no HANDLE is OPEN, an empty TAPE; it RUNS");
        Lasting x = new Lasting();
        check.same("state", x.state(), 0);
        for (int what = 0; what <= 8; what++) {
            check.same("look(" + what + ")", x.look(what), what == 5 ? -1 : 0);
        }
        for (int r = 0; r <= 32; r++) {
            check.same("register(" + r + ")", x.register(r), 0);
        }
        check.same("files()", x.files(), 0);
        for (int h = 1; h <= 10; h++) {
            check.same("handle(" + h + ", 0)", x.handle(h, 0), 0);
            for (int what = 1; what < 4; what++) {
                check.same("handle(" + h + ", " + what + ")", x.handle(h, what), -1);
            }
        }
        for (int which = 0; which < 2; which++) {
            check.same("printed(" + which + ")", x.printed(which), 0);
            check.same("print(" + which + ", 0)", x.print(which, 0), -1);
        }
        check.isFalse("end(1)", x.end(1));
        check.same("the first feed", x.feed(1, 2, 3, 4, 5), 20);
        HostBench other = new HostBench();
        check.isFalse("an object of its own", other.end(1));
    }

    private static void feed() {
        check.about("Twenty bytes come behind the TAPE, of each number the highest first: how many it has");
        Bench b = scene();
        Whole before = new Whole(b.x);
        check.isTrue("end(0)", b.x.end(0));
        check.same("feed", b.x.feed(0x01020304, LEAST, -1, MOST, 0x00FF0080), 20);
        check.isTrue("end(19)", b.x.end(19));
        check.same("feed behind 19", b.x.feed(0, 0, 0, 0, 0x61626364), 39);
        check.same("what changed", new Whole(b.x).changedSince(before), "");
        tapeIs("feed", b, "\1\2\3\4\200\0\0\0\377\377\377\377\177\377\377\377\0\377\0"
                + Bench.times('\0', 16) + "abcd");
    }

    private static void feedLimit() {
        check.about("NONE, and none come, if it would have more than 2,100");
        int[] fine = {2060, 2079, 2080};
        for (int bytes : fine) {
            Bench b = new Bench();
            b.tape(Bench.times('t', bytes));
            check.same("feed behind " + bytes, b.x.feed(-1, -1, -1, -1, -1), bytes + 20);
            check.isTrue("so many", b.x.end(bytes + 20));
            check.isFalse("and no more", b.x.end(bytes + 21));
        }
        int[] full = {2081, 2090, 2099, 2100};
        for (int bytes : full) {
            Bench b = new Bench();
            b.tape(Bench.times('t', bytes));
            Whole before = new Whole(b.x);
            check.same("feed behind " + bytes, b.x.feed(-1, -1, -1, -1, -1), -1);
            check.same("what changed", new Whole(b.x).changedSince(before), "");
            tapeIs("a feed refused", b, Bench.times('t', bytes));
            check.same("feed behind that", b.x.feed(-1, -1, -1, -1, -1), 20);
        }
    }

    private static void end() {
        check.about("The TAPE has its first n bytes alone: true");
        for (int n = 0; n <= TAPE.length(); n += 7) {
            Bench b = scene();
            b.tape(TAPE);
            Whole before = new Whole(b.x);
            check.isTrue("end(" + n + ")", b.x.end(n));
            check.same("what changed", new Whole(b.x).changedSince(before), "");
            tapeIs("end(" + n + ")", b, TAPE.substring(0, n));
        }
        check.about("false, and nothing happens, if it has fewer, or n is below 0");
        int[] refused = {TAPE.length() + 1, 2100, 2101, MOST, LEAST, -1};
        for (int n : refused) {
            Bench b = scene();
            b.tape(TAPE);
            Whole before = new Whole(b.x);
            check.isFalse("end(" + n + ")", b.x.end(n));
            check.same("what changed", new Whole(b.x).changedSince(before), "");
            tapeIs("end(" + n + ")", b, TAPE);
        }
        Bench full = new Bench();
        full.tape(Bench.times('t', 2100));
        check.isTrue("end(2100)", full.x.end(2100));
        check.isTrue("end(2099)", full.x.end(2099));
        check.isFalse("end(2100) behind it", full.x.end(2100));
        check.isFalse("end(1) of none", new Bench().x.end(1));
        check.isTrue("end(0) of none", new Bench().x.end(0));
    }

    private static void put() {
        check.about("Uses the TAPE up: its bytes come to lie in the MEMORY from a place on: how many");
        int[] places = {0, 1, 9999, 16384 - TAPE.length()};
        for (int place : places) {
            Bench b = scene();
            b.x.set(3, 3);
            b.tape(TAPE);
            check.same("put(" + place + ")", b.x.put(place), TAPE.length());
            check.same("its bytes", b.memory(place, TAPE.length()), TAPE);
            check.same("the byte ahead", b.x.peek(place - 1), place == 0 ? -1 : 0);
            check.same("the byte behind", b.x.peek(place + TAPE.length()), place > 10000 ? -1 : 0);
            check.isFalse("the TAPE is empty", b.x.end(1));
        }
        Bench b = scene();
        Whole before = new Whole(b.x);
        int[] empty = {0, 1, 16383, 16384};
        for (int place : empty) {
            check.same("put(" + place + ") of no bytes", b.x.put(place), 0);
        }
        check.same("what changed", new Whole(b.x).changedSince(before), "");
        b.tape(Bench.times('t', 2100));
        check.same("2,100 bytes up to the end", b.x.put(14284), 2100);
        check.same("the first", b.x.peek(14284), 't');
        check.same("the last", b.x.peek(16383), 't');
    }

    private static void putRefused() {
        check.about("IndexOutOfBoundsException: they would not all be in it, or the place is below 0");
        int n = TAPE.length();
        int[] places = {16384 - n + 1, 16383, 16384, 16385, MOST - n, MOST - n + 1, MOST, LEAST, -n, -1};
        for (int place : places) {
            Bench b = scene();
            refusesTape("put(" + place + ")", IndexOutOfBoundsException.class, b, TAPE, () -> b.x.put(place));
        }
        Bench one = scene();
        refusesTape("one byte at 16384", IndexOutOfBoundsException.class, one, "x", () -> one.x.put(16384));
        int[] below = {-1, LEAST};
        for (int place : below) {
            Bench b = scene();
            refusesTape("no bytes at " + place, IndexOutOfBoundsException.class, b, "", () -> b.x.put(place));
        }
    }

    private static void lay() {
        check.about("its bytes up to the first 0 are a NAME, those behind that 0 the bytes of the FILE of that NAME");
        String[][] rows = {{"n", ""}, {"n", "\0"}, {"n", "\0\0x\0"}, {Bench.times('n', 24), "x"}, {"\377\1", "\377"}};
        for (String[] row : rows) {
            Bench b = scene();
            check.same("lay", b.lay(row[0], row[1]), row[1].length());
            check.same("FILES", b.x.files(), 4);
            check.same("its NAME", b.name(3), row[0]);
            check.same("its bytes", b.content(3), row[1]);
            check.isFalse("the TAPE is empty", b.x.end(1));
        }
        check.about("(one that is there loses its own): how many bytes it has");
        String[] contents = {"", "x", "another file", Bench.times('c', 2000)};
        for (String content : contents) {
            Bench b = scene();
            check.same("lay", b.lay(":tt", content), content.length());
            check.same("FILES", b.names(), "a b :tt");
            check.same("its bytes", b.content(2), content);
        }
        Bench b = scene();
        check.same("lay of 2,000", b.lay("big", Bench.times('c', 2000)), 2000);
        check.same("the last", b.x.fileByte(3, 1999, false), 'c');
        check.same("lay of fewer", b.lay("big", "dd"), 2);
        check.same("none is left", b.content(3), "dd");
    }

    private static void layRefused() {
        check.about("IllegalArgumentException: no 0, a NAME of no bytes or more than 24, more than 2,000 bytes");
        String[] tapes = {"", "n", TAPE, Bench.times('n', 24), Bench.times('n', 2100), "\0", "\0bytes", "\0\0",
            Bench.times('n', 25) + "\0", Bench.times('n', 26) + "\0x", "n\0" + Bench.times('c', 2001),
            Bench.times('n', 24) + "\0" + Bench.times('c', 2001), "n\0" + Bench.times('\0', 2098)};
        for (String tape : tapes) {
            Bench b = scene();
            refusesTape("lay of " + tape.length(), IllegalArgumentException.class, b, tape, () -> b.x.lay());
        }
        check.about("IllegalStateException: a HANDLE that is OPEN has that FILE");
        Bench b = scene();
        refusesTape("two HANDLES", IllegalStateException.class, b, "a\0new", () -> b.x.lay());
        refusesTape("one HANDLE", IllegalStateException.class, b, "b\0", () -> b.x.lay());
        b.call(2, Scene.ADD);
        check.same("behind CLOSE", b.lay("b", "new"), 3);
        check.same("the CONSOLE's HANDLES have no FILE", b.lay(":tt", "new"), 3);
        check.about("UnsupportedOperationException: it would be a 13th one");
        Bench full = scene();
        for (int i = 3; i < 12; i++) {
            check.same("lay " + i, full.lay("f" + i, "x"), 1);
        }
        refusesTape("a 13th", UnsupportedOperationException.class, full, "new\0x", () -> full.x.lay());
        check.same("one of 12", full.lay("f11", "another"), 7);
        full.remove("f3");
        check.same("a 12th", full.lay("new", "x"), 1);
        check.same("it is the last", full.name(11), "new");
    }

    private static void layOrder() {
        check.about("Of several exceptions the one told first is thrown");
        Bench b = scene();
        String many = Bench.times('c', 2001);
        refusesTape("2,001 bytes, OPEN", IllegalArgumentException.class, b, "a\0" + many, () -> b.x.lay());
        Bench full = scene();
        for (int i = 3; i < 12; i++) {
            full.lay("f" + i, "x");
        }
        refusesTape("no 0, 12 FILES", IllegalArgumentException.class, full, "new", () -> full.x.lay());
        refusesTape("2,001 bytes, 12 FILES", IllegalArgumentException.class, full, "new\0" + many, () -> full.x.lay());
        refusesTape("OPEN, 12 FILES", IllegalStateException.class, full, "a\0x", () -> full.x.lay());
    }

    private static void type() {
        check.about("its bytes come behind those of IN: how many wait");
        int[] counts = {0, 1, 394, 395};
        for (int n : counts) {
            Bench b = scene();
            b.tape(Bench.times('\0', n));
            check.same("type of " + n, b.x.type(), 5 + n);
            check.same("look(6)", b.x.look(6), 5 + n);
            check.isFalse("the TAPE is empty", b.x.end(1));
            check.same("the first one", b.callAt(7, 0), 'i');
        }
        check.about("IllegalStateException: more than 400 would");
        int[] refused = {396, 400, 401, 2100};
        for (int n : refused) {
            Bench b = scene();
            refusesTape("type of " + n, IllegalStateException.class, b, Bench.times('x', n), () -> b.x.type());
            check.same("those that wait", b.x.look(6), 5);
        }
        Bench full = new Bench();
        check.same("400 at once", full.tape(Bench.times('x', 400)).x.type(), 400);
        check.same("none more", full.tape("").x.type(), 400);
        refusesTape("one more", IllegalStateException.class, full, "y", () -> full.x.type());
        full.callAt(7, 0);
        check.same("behind READC", full.tape("y").x.type(), 400);
        Bench none = new Bench();
        refusesTape("401 at once", IllegalStateException.class, none, Bench.times('x', 401), () -> none.x.type());
    }

    private static void command() {
        check.about("it is the COMMAND: how many bytes");
        int[] counts = {0, 1, 79, 80};
        for (int n : counts) {
            Bench b = scene();
            b.tape(Bench.times('\377', n));
            check.same("command of " + n, b.x.command(), n);
            check.same("look(8)", b.x.look(8), n);
            check.isFalse("the TAPE is empty", b.x.end(1));
            check.same("COMMAND", b.call(21, 2000, 81), 0);
            check.same("its bytes", b.memory(2000, n + 1), Bench.times('\377', n) + "\0");
        }
        check.about("IllegalArgumentException: more than 80, or a 0 among them");
        String[] tapes = {Bench.times('c', 81), Bench.times('c', 2100), "\0", "\0c", "c\0", "c\0c",
            Bench.times('c', 79) + "\0", Bench.times('c', 80) + "\0"};
        for (String tape : tapes) {
            Bench b = scene();
            refusesTape("command of " + tape.length(), IllegalArgumentException.class, b, tape, () -> b.x.command());
            check.same("COMMAND", b.call(21, 2000, 81), 0);
            check.same("it is as it was", b.memory(2000, 10), "a command\0");
        }
    }

    private static void clock() {
        check.about("The CLOCK is that");
        int[] times = {0, 1, -1, LEAST, MOST};
        for (int time : times) {
            Bench b = scene();
            Whole before = new Whole(b.x);
            b.x.clock(time);
            check.same("look(7)", b.x.look(7), time);
            check.same("what else changed", new Whole(b.x).changedSince(before, "look 7"), "");
        }
    }

    private static String[] allRegisters() {
        String[] names = new String[36];
        for (int r = 0; r <= 32; r++) {
            names[r] = "register " + r;
        }
        names[33] = "state";
        names[34] = "look 0";
        names[35] = "look 1";
        return names;
    }

    private static void begin() {
        check.about("The guest RUNS again, registers and PC are 0; MEMORY, FILES, HANDLES, console, ERRNO, STEPS stay");
        for (int state = 0; state < 3; state++) {
            Bench b = scene();
            for (int r = 1; r < 32; r++) {
                b.x.set(r, ~r);
            }
            if (state == 1) {
                b.callAt(24, 5);
            } else {
                b.x.set(32, state == 0 ? 16 : 17);
                b.x.run(state / 2);
            }
            check.same("state ahead", b.x.state(), state);
            b.tape(TAPE);
            Whole before = new Whole(b.x);
            b.x.begin();
            check.same("state", b.x.state(), 0);
            check.same("TRAP", b.x.look(0), 0);
            check.same("CODE", b.x.look(1), 0);
            for (int r = 0; r <= 32; r++) {
                check.same("register " + r, b.x.register(r), 0);
            }
            check.same("what else changed", new Whole(b.x).changedSince(before, allRegisters()), "");
            tapeIs("begin", b, TAPE);
            check.same("it goes on", b.callAt(49, 0), 1000);
        }
    }

    private static void run() {
        check.about("At most so many STEPS, fewer if it does not RUN (any more; the STEP by which that comes counts)");
        int[] counts = {0, 1, 2, 4999, 5000};
        for (int n : counts) {
            Bench b = new Bench();
            b.words(0, Rv.addi(1, 1, 1), Rv.jal(0, -4));
            check.same("run(" + n + ")", b.x.run(n), n);
            check.same("STEPS", b.x.look(3), n);
            check.same("rounds", b.x.register(1), (n + 1) / 2);
        }
        Bench trap = new Bench();
        trap.words(0, Rv.addi(1, 1, 1), Rv.addi(1, 1, 1), Rv.ECALL);
        check.same("run up to a TRAP, not to it", trap.x.run(2), 2);
        check.same("RUNS", trap.x.state(), 0);
        check.same("the TRAP's STEP", trap.x.run(2), 1);
        check.same("STOPPED", trap.x.state(), 2);
        check.same("none behind it", trap.x.run(5000), 0);
        trap.x.begin();
        check.same("all at once", trap.x.run(5000), 3);
        Bench exit = new Bench();
        exit.x.set(10, 24);
        exit.x.set(32, Bench.CODE);
        check.same("run up to an EXIT", exit.x.run(5000), 2);
        check.same("EXITED", exit.x.state(), 1);
        Whole before = new Whole(exit.x);
        check.same("none behind it", exit.x.run(5000), 0);
        check.same("run(0) behind it", exit.x.run(0), 0);
        check.same("what changed", new Whole(exit.x).changedSince(before), "");
    }

    private static void runRefused() {
        check.about("IllegalArgumentException: not 0 to 5000");
        int[] counts = {-1, 5001, 5002, MOST, LEAST};
        for (int n : counts) {
            Bench b = scene();
            refuses("run(" + n + ")", IllegalArgumentException.class, b, () -> b.x.run(n));
            b.callAt(24, 0);
            refuses("run(" + n + ") of one that has EXITED", IllegalArgumentException.class, b, () -> b.x.run(n));
            b.x.begin();
            b.x.set(32, 1);
            b.x.run(1);
            refuses("run(" + n + ") of one that is STOPPED", IllegalArgumentException.class, b, () -> b.x.run(n));
        }
    }

    private static void state() {
        check.about("0 the guest RUNS, 1 it has EXITED, 2 it is STOPPED");
        Bench b = new Bench();
        check.same("RUNS", b.x.state(), 0);
        b.callAt(24, 131110);
        check.same("EXITED", b.x.state(), 1);
        b.x.set(32, Bench.CODE);
        b.x.run(3);
        check.same("EXITED it stays", b.x.state(), 1);
        b.x.begin();
        check.same("RUNS again", b.x.state(), 0);
        b.x.run(1);
        check.same("STOPPED", b.x.state(), 2);
        b.x.set(32, Bench.CODE);
        check.same("STOPPED it stays", b.x.state(), 2);
    }

    private static void look() {
        check.about("look: NoSuchElementException: another what");
        int[] others = {-1, 9, 10, 256, MOST, LEAST};
        for (int what : others) {
            Bench b = scene();
            refuses("look(" + what + ")", NoSuchElementException.class, b, () -> b.x.look(what));
        }
        check.about("2 ERRNO, 3 STEPS, 4 CALLS done, 5 the operation of the latest CALL, 6 bytes that wait, 7, 8");
        Bench b = scene();
        int[] due = {0, 0, 38, 20, 10, 0, 5, 77, 9};
        for (int what = 0; what <= 8; what++) {
            check.same("look(" + what + ")", b.x.look(what), due[what]);
        }
        check.about("4 CALLS done (also those that FAIL, EXITS)");
        b.callAt(3, -1);
        check.same("one that FAILS", b.x.look(4), 11);
        b.x.set(32, Bench.CODE);
        b.x.run(1);
        check.same("none by the word ahead", b.x.look(4), 11);
        b.callAt(24, 0);
        check.same("an EXIT", b.x.look(4), 12);
        b.x.begin();
        b.x.set(32, Bench.CODE + 4);
        b.bytes(Bench.CODE, "\0");
        b.x.run(1);
        check.same("an EBREAK that is none", b.x.look(4), 12);
        check.same("the latest is that ahead of it", b.x.look(5), 24);
        check.about("5 the operation of the latest CALL (NONE ahead of any)");
        Bench none = new Bench();
        check.same("ahead of any", none.x.look(5), -1);
        int[] operations = {0, 49, -1, LEAST, MOST};
        for (int operation : operations) {
            none.callAt(operation, 0);
            check.same("behind " + operation, none.x.look(5), operation);
        }
    }

    private static void lookOfTheEnd() {
        check.about("0 the TRAP that STOPPED it (0 of one that is not), 1 its CODE (0 of one that has not EXITED)");
        Bench b = new Bench();
        b.call(32, 131110, 99);
        check.same("TRAP of one that has EXITED", b.x.look(0), 0);
        check.same("its CODE", b.x.look(1), 99);
        b.x.begin();
        check.same("CODE of one that RUNS", b.x.look(1), 0);
        b.x.set(32, 3);
        b.x.run(1);
        check.same("TRAP of one that is STOPPED", b.x.look(0), 1);
        check.same("its CODE", b.x.look(1), 0);
        b.x.begin();
        check.same("TRAP of one that RUNS", b.x.look(0), 0);
    }

    private static void register() {
        check.about("register: Registers 0 to 31, 32 PC. NoSuchElementException: another one");
        Bench b = scene();
        for (int r = 1; r <= 32; r++) {
            b.x.set(r, LEAST + r);
        }
        for (int r = 0; r <= 32; r++) {
            check.same("register(" + r + ")", b.x.register(r), r == 0 ? 0 : LEAST + r);
        }
        int[] others = {-1, 33, 34, 64, MOST, LEAST};
        for (int r : others) {
            refuses("register(" + r + ")", NoSuchElementException.class, b, () -> b.x.register(r));
        }
    }

    private static void set() {
        check.about("A register (as above, not 0) becomes v: true");
        int[] values = {0, 1, -1, LEAST, MOST};
        for (int r = 1; r <= 32; r++) {
            Bench b = scene();
            Whole before = new Whole(b.x);
            check.isTrue("set(" + r + ")", b.x.set(r, values[r % 5]));
            check.same("register(" + r + ")", b.x.register(r), values[r % 5]);
            check.same("what else changed", new Whole(b.x).changedSince(before, "register " + r), "");
        }
        check.about("false if there is none such");
        int[] others = {0, -1, 33, 34, 64, -32, MOST, LEAST};
        for (int r : others) {
            Bench b = scene();
            Whole before = new Whole(b.x);
            check.isFalse("set(" + r + ")", b.x.set(r, 5));
            check.same("what changed", new Whole(b.x).changedSince(before), "");
        }
    }

    private static void setOfOneThatIsStopped() {
        check.about("(A STOPPED guest stays STOPPED.)");
        Bench b = scene();
        b.x.set(32, 2);
        b.x.run(1);
        Whole before = new Whole(b.x);
        check.isTrue("set(32)", b.x.set(32, Bench.CODE));
        check.isTrue("set(5)", b.x.set(5, 55));
        check.same("what else changed", new Whole(b.x).changedSince(before, "register 32", "register 5"), "");
        check.same("STOPPED", b.x.state(), 2);
        check.same("its TRAP", b.x.look(0), 1);
        check.same("no STEP", b.x.run(5), 0);
        check.same("PC", b.x.register(32), Bench.CODE);
    }

    private static void peek() {
        check.about("The byte at a place of the MEMORY, 0 to 255; NONE if it is not in it");
        Bench b = scene();
        b.bytes(0, "\377\0\200");
        b.bytes(16382, "\177\377");
        int[][] rows = {{0, 255}, {1, 0}, {2, 128}, {16382, 127}, {16383, 255}, {16384, -1}, {16385, -1}, {-1, -1},
            {-16384, -1}, {MOST, -1}, {LEAST, -1}, {65536, -1}};
        for (int[] row : rows) {
            check.same("peek(" + row[0] + ")", b.x.peek(row[0]), row[1]);
        }
    }

    private static void files() {
        check.about("How many FILES there are");
        Bench b = new Bench();
        for (int i = 0; i < 12; i++) {
            check.same("files()", b.x.files(), i);
            b.lay("f" + i, "");
        }
        check.same("files()", b.x.files(), 12);
        b.open("f0", 0);
        b.remove("f0");
        check.same("behind a REMOVE that FAILS", b.x.files(), 12);
        b.remove("f1");
        check.same("behind REMOVE", b.x.files(), 11);
        b.open("f1", 4);
        check.same("behind OPEN", b.x.files(), 12);
    }

    private static void file() {
        check.about("what 0: how many bytes, 1: how many bytes its NAME has, 2: how many HANDLES that are OPEN have it");
        Bench b = scene();
        int[][] due = {{5, 1, 2}, {4, 1, 1}, {6, 3, 0}};
        for (int k = 0; k < 3; k++) {
            for (int what = 0; what < 3; what++) {
                check.same("file(" + k + ", " + what + ")", b.x.file(k, what), due[k][what]);
            }
        }
        for (int h = Scene.SHUT; h <= 10; h++) {
            b.open("b", 0);
        }
        check.same("five HANDLES", b.x.file(1, 2), 5);
        check.about("NoSuchElementException: there is none such, or another what");
        int[][] others = {{3, 0}, {4, 1}, {11, 0}, {12, 2}, {-1, 0}, {MOST, 0}, {LEAST, 0}, {0, 3}, {0, -1}, {2, 4},
            {0, MOST}, {0, LEAST}, {3, 3}, {-1, -1}};
        for (int[] row : others) {
            refuses("file(" + row[0] + ", " + row[1] + ")", NoSuchElementException.class, b,
                    () -> b.x.file(row[0], row[1]));
        }
        Bench none = new Bench();
        refuses("file(0, 0) of none", NoSuchElementException.class, none, () -> none.x.file(0, 0));
        Bench all = new Bench();
        for (int i = 0; i < 12; i++) {
            all.lay("f" + i, Bench.times('x', i));
        }
        check.same("file(11, 0)", all.x.file(11, 0), 11);
        refuses("file(12, 0)", NoSuchElementException.class, all, () -> all.x.file(12, 0));
    }

    private static void fileOrder() {
        check.about("from 0 on, as they came; where one goes those behind come down by one");
        String[][] rows = {{"p", "q r"}, {"q", "p r"}, {"r", "p q"}};
        for (String[] row : rows) {
            Bench b = new Bench();
            b.lay("p", "1");
            b.open("q", 4);
            b.call(2, 1);
            b.lay("r", "333");
            check.same("as they came", b.names(), "p q r");
            check.same("REMOVE", b.remove(row[0]), 0);
            check.same("without " + row[0], b.names(), row[1]);
            b.lay(row[0], "new");
            check.same("the new one is the last", b.names(), row[1] + " " + row[0]);
            check.same("its bytes", b.content(2), "new");
        }
        check.about("a NAME that is another one changes no order");
        Bench b = new Bench();
        b.lay("p", "1");
        b.lay("q", "22");
        b.rename("p", "z");
        check.same("RENAME", b.names(), "z q");
        b.lay("q", "");
        b.lay("z", "333");
        check.same("lay of one that is there", b.names(), "z q");
        b.open("z", 4);
        check.same("OPEN of one that is there", b.names(), "z q");
    }

    private static void fileByte() {
        check.about("Byte i of FILE k (0 to 255), of its NAME if named; NONE if there is none such");
        Bench b = new Bench();
        b.lay("n\377\1", "\0\377\200");
        int[] content = {0, 255, 128};
        int[] name = {'n', 255, 1};
        for (int i = 0; i < 3; i++) {
            check.same("byte " + i, b.x.fileByte(0, i, false), content[i]);
            check.same("byte " + i + " of its NAME", b.x.fileByte(0, i, true), name[i]);
        }
        int[] none = {3, 4, 24, 2000, -1, MOST, LEAST};
        for (int i : none) {
            check.same("byte " + i, b.x.fileByte(0, i, false), -1);
            check.same("byte " + i + " of its NAME", b.x.fileByte(0, i, true), -1);
        }
        int[] files = {1, 11, 12, -1, MOST, LEAST};
        for (int k : files) {
            check.same("FILE " + k, b.x.fileByte(k, 0, false), -1);
            check.same("NAME of FILE " + k, b.x.fileByte(k, 0, true), -1);
        }
        b.lay(Bench.times('n', 24), Bench.times('c', 2000));
        check.same("byte 1999", b.x.fileByte(1, 1999, false), 'c');
        check.same("byte 2000", b.x.fileByte(1, 2000, false), -1);
        check.same("byte 23 of its NAME", b.x.fileByte(1, 23, true), 'n');
        check.same("byte 24 of its NAME", b.x.fileByte(1, 24, true), -1);
        b.lay("empty", "");
        check.same("byte 0 of none", b.x.fileByte(2, 0, false), -1);
        b.remove("empty");
        check.same("byte 0 of one that is gone", b.x.fileByte(2, 0, true), -1);
    }

    private static void handle() {
        check.about("0 it is not OPEN, 1 it has a FILE, 2 it READS the CONSOLE, 3 it WRITES to OUT, 4 to ERR; 1 to 3");
        Bench b = scene();
        int[][] due = {{1, 2, 0, 3}, {2, 0, -1, 1}, {3, 0, -1, 2}, {4, 0, -1, 2}, {1, 0, 1, 6}, {1, 0, 0, 1},
            {0, -1, -1, -1}, {0, -1, -1, -1}, {0, -1, -1, -1}, {0, -1, -1, -1}};
        for (int h = 1; h <= 10; h++) {
            for (int what = 0; what < 4; what++) {
                check.same("handle(" + h + ", " + what + ")", b.x.handle(h, what), due[h - 1][what]);
            }
        }
        check.about("NoSuchElementException: there is no such HANDLE, or another what");
        int[][] others = {{0, 0}, {11, 0}, {12, 1}, {-1, 0}, {MOST, 0}, {LEAST, 0}, {1, 4}, {1, -1}, {10, 4}, {10, -1},
            {2, MOST}, {2, LEAST}, {0, 4}};
        for (int[] row : others) {
            refuses("handle(" + row[0] + ", " + row[1] + ")", NoSuchElementException.class, b,
                    () -> b.x.handle(row[0], row[1]));
        }
        check.about("the number of its FILE, where one ahead of it goes");
        b.lay("c", "");
        b.open("c", 10);
        check.same("ahead of REMOVE", b.x.handle(7, 2), 3);
        b.remove(":tt");
        check.same("behind REMOVE", b.x.handle(7, 2), 2);
        check.same("READ, WRITE and ADD", b.x.handle(7, 3), 7);
    }

    private static void printed() {
        check.about("How many bytes came to OUT (0) or ERR (1); NONE for another which");
        Bench b = scene();
        int[][] rows = {{0, 3}, {1, 5}, {2, -1}, {-1, -1}, {MOST, -1}, {LEAST, -1}};
        for (int[] row : rows) {
            check.same("printed(" + row[0] + ")", b.x.printed(row[0]), row[1]);
        }
        b.call(5, Scene.OUT, 0, 16384);
        check.same("more than are kept", b.x.printed(0), 16387);
        check.same("ERR has none of them", b.x.printed(1), 5);
    }

    private static void print() {
        check.about("Byte i of OUT (0) or ERR (1), of which the first 2,000 are kept; NONE if there is none such");
        for (int which = 0; which < 2; which++) {
            Bench b = new Bench();
            int h = b.open(":tt", which == 0 ? 4 : 8);
            int other = 1 - which;
            b.bytes(6000, Bench.times('x', 1998) + "\0\377zz");
            b.call(5, h, 6000, 1999);
            check.same("print of 1,999", b.x.print(which, 1998), 0);
            check.same("print behind them", b.x.print(which, 1999), -1);
            b.call(5, h, 7999, 1);
            check.same("the 2,000th", b.x.print(which, 1999), 255);
            b.call(5, h, 8000, 1);
            check.same("the 2,001st", b.x.print(which, 2000), -1);
            check.same("printed", b.x.printed(which), 2001);
            int[] none = {2001, -1, MOST, LEAST};
            for (int i : none) {
                check.same("print(" + which + ", " + i + ")", b.x.print(which, i), -1);
            }
            check.same("the other one", b.x.print(other, 0), -1);
            int[] others = {2, -1, MOST, LEAST};
            for (int w : others) {
                check.same("print(" + w + ", 0)", b.x.print(w, 0), -1);
            }
            Bench over = new Bench();
            over.open(":tt", which == 0 ? 4 : 8);
            over.bytes(6000, Bench.times('x', 1999));
            over.bytes(7999, "yz");
            over.call(5, 1, 6000, 2001);
            check.same("the 2,000th of 2,001 at once", over.x.print(which, 1999), 'y');
            check.same("the 2,001st of them", over.x.print(which, 2000), -1);
        }
    }

    /** One object is asked for all that there is to see, another one like it is not. */
    private static void looksChangeNothing() {
        check.about("what looks changes nothing");
        Bench asked = scene();
        HostBench object = asked.x.object();
        for (int i = 0; i < 3; i++) {
            object.state();
            object.look(i + 2);
            object.register(i);
            object.peek(i);
            object.files();
            object.file(i, 0);
            object.fileByte(i, 0, i == 0);
            object.handle(i + 1, 1);
            object.printed(i);
            object.print(i, 0);
        }
        Bench other = scene();
        for (int h = 1; h <= 10; h++) {
            for (int what = 0; what < 4; what++) {
                check.same("handle", object.handle(h, what), other.x.handle(h, what));
            }
        }
        for (int r = 0; r <= 32; r++) {
            check.same("register", object.register(r), other.x.register(r));
        }
        for (int what = 0; what <= 8; what++) {
            check.same("look", object.look(what), other.x.look(what));
        }
        check.same("READC", asked.callAt(7, 0), other.callAt(7, 0));
        check.isFalse("the TAPE", asked.x.end(1));
    }
}
