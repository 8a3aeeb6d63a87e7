import java.util.NoSuchElementException;

/** Promises 1 to 9: a new object, the TAPE and the calls that use it up, clock and begin. */
public final class TapeTest {
    private static final Check check = new Check("TapeTest");

    private TapeTest() {
    }

    public static void main(String[] args) {
        newObject();
        feed();
        end();
        put();
        lay();
        layRefused();
        type();
        command();
        clock();
        begin();
        check.finish();
    }

    private static void newObject() {
        Lasting x = new Lasting();
        check.same("NONE", HostBench.NONE, -1);
        check.same("new state", x.state(), 0);
        for (int r = 0; r <= 32; r++) {
            check.same("new register " + r, x.register(r), 0);
        }
        for (int what = 0; what <= 8; what++) {
            check.same("new look " + what, x.look(what), what == 5 ? -1 : 0);
        }
        for (int place = 0; place < 16384; place++) {
            check.same("new peek " + place, x.peek(place), 0);
        }
        for (int h = 1; h <= 10; h++) {
            check.same("new handle " + h, x.handle(h, 0), 0);
        }
        check.same("new files", x.files(), 0);
        check.same("new printed 0", x.printed(0), 0);
        check.same("new printed 1", x.printed(1), 0);
        check.isFalse("the new TAPE is empty", x.end(1));
        check.isTrue("the new TAPE has 0 bytes", x.end(0));
    }

    private static void feed() {
        Bench b = new Bench();
        check.same("feed", b.x.feed(0x01020304, 0x80FF7F00, 5, 6, -2), 20);
        check.same("feed again", b.x.feed(1, 2, 3, 4, 5), 40);
        check.same("put what was fed", b.x.put(0), 40);
        check.same("bytes, the highest first", b.word(0), 0x04030201);
        check.same("bytes above 127", b.word(4), 0x007FFF80);
        check.same("the fifth number", b.word(16), 0xFEFFFFFF);
        check.same("the second feed lies behind", b.word(20), 0x01000000);
        for (int n = 20; n <= 2100; n += 20) {
            check.same("feed up to the limit", b.x.feed(7, 7, 7, 7, 7), n);
        }
        check.same("feed beyond 2,100", b.x.feed(8, 8, 8, 8, 8), -1);
        check.isTrue("nothing came", b.x.end(2100));
        check.isTrue("end(2081)", b.x.end(2081));
        check.same("20 more would be 2,101", b.x.feed(8, 8, 8, 8, 8), -1);
        check.isTrue("end(2080)", b.x.end(2080));
        check.same("20 more are 2,100", b.x.feed(8, 8, 8, 8, 8), 2100);
    }

    private static void end() {
        Bench b = new Bench();
        b.tape("abcdef");
        check.isFalse("end(7) of 6", b.x.end(7));
        check.isFalse("end(-1)", b.x.end(-1));
        check.isFalse("end of the least number", b.x.end(Integer.MIN_VALUE));
        check.isTrue("end(6) of 6", b.x.end(6));
        check.isTrue("end(3)", b.x.end(3));
        check.isFalse("end(4) behind end(3)", b.x.end(4));
        check.same("put three", b.x.put(100), 3);
        check.same("the first ones stay", b.memory(100, 4), "abc\0");
        b.tape("xy");
        check.isTrue("end(0)", b.x.end(0));
        check.isFalse("empty behind end(0)", b.x.end(1));
    }

    private static void put() {
        Bench b = new Bench();
        check.same("put", b.tape("hello").x.put(16379), 5);
        check.same("put up to the end", b.memory(16379, 5), "hello");
        check.isFalse("put uses the TAPE up", b.x.end(1));
        check.fails("put beyond the end", IndexOutOfBoundsException.class, () -> b.tape("world").x.put(16380));
        check.isFalse("a put that throws uses the TAPE up", b.x.end(1));
        check.same("and leaves the MEMORY", b.memory(16379, 5), "hello");
        check.fails("put below 0", IndexOutOfBoundsException.class, () -> b.tape("world").x.put(-1));
        check.isFalse("so does one below 0", b.x.end(1));
        check.fails("put at the greatest place", IndexOutOfBoundsException.class,
                () -> b.tape("w").x.put(Integer.MAX_VALUE));
        check.fails("put at the least place", IndexOutOfBoundsException.class,
                () -> b.tape("w").x.put(Integer.MIN_VALUE));
        check.same("put of no bytes", b.x.put(16384), 0);
        check.fails("put of no bytes below 0", IndexOutOfBoundsException.class, () -> b.x.put(-1));
        check.same("a long put", b.tape(Bench.times('q', 2100)).x.put(0), 2100);
        check.same("its last byte", b.x.peek(2099), 'q');
        check.same("none behind it", b.x.peek(2100), 0);
    }

    private static void lay() {
        Bench b = new Bench();
        check.same("lay", b.lay("one", "\1\2\0\3"), 4);
        check.isFalse("lay uses the TAPE up", b.x.end(1));
        check.same("lay of no bytes", b.lay("two", ""), 0);
        check.same("lay of 2,000", b.lay(Bench.times('n', 24), Bench.times('c', 2000)), 2000);
        check.same("names", b.names(), "one two " + Bench.times('n', 24));
        check.same("bytes with a 0 among them", b.content(0), "\1\2\0\3");
        check.same("2,000 bytes", b.content(2), Bench.times('c', 2000));
        check.same("lay again", b.lay("one", "z"), 1);
        check.same("it lost its own", b.content(0), "z");
        check.same("no new one", b.x.files(), 3);
        check.same("a name like another's start", b.lay("on", ""), 0);
        check.same("is another one", b.x.files(), 4);
        check.same("bytes above 127", b.lay("\377\200", "\377"), 1);
        check.same("in a NAME", b.x.fileByte(4, 0, true), 255);
        check.same("in a FILE", b.x.fileByte(4, 0, false), 255);
    }

    private static void layRefused() {
        Bench b = new Bench();
        b.lay("f", "old");
        check.fails("lay of nothing", IllegalArgumentException.class, () -> b.x.lay());
        check.fails("lay without a 0", IllegalArgumentException.class, () -> b.tape("abc").x.lay());
        check.isFalse("uses the TAPE up", b.x.end(1));
        check.fails("no NAME", IllegalArgumentException.class, () -> b.lay("", "abc"));
        check.fails("a NAME of 25", IllegalArgumentException.class, () -> b.lay(Bench.times('n', 25), ""));
        check.fails("2,001 bytes", IllegalArgumentException.class, () -> b.lay("f", Bench.times('c', 2001)));
        check.isFalse("uses the TAPE up too", b.x.end(1));
        b.open("f", 0);
        check.fails("an OPEN one", IllegalStateException.class, () -> b.lay("f", "new"));
        check.isFalse("uses the TAPE up as well", b.x.end(1));
        check.fails("2,001 bytes ahead of OPEN", IllegalArgumentException.class,
                () -> b.lay("f", Bench.times('c', 2001)));
        for (int i = 1; i < 12; i++) {
            check.same("lay " + i, b.lay("f" + i, "x"), 1);
        }
        check.fails("a 13th one", UnsupportedOperationException.class, () -> b.lay("g", "x"));
        check.isFalse("uses the TAPE up at last", b.x.end(1));
        check.fails("a 13th without 0", IllegalArgumentException.class, () -> b.tape("g").x.lay());
        check.fails("an OPEN one of 12", IllegalStateException.class, () -> b.lay("f", "new"));
        check.same("one of 12 again", b.lay("f11", "yy"), 2);
        check.same("12", b.x.files(), 12);
        check.same("the OPEN one is as it was", b.content(0), "old");
        b.call(2, 1);
        check.same("behind CLOSE", b.lay("f", "new!"), 4);
    }

    private static void type() {
        Bench b = new Bench();
        check.same("type", b.tape("abc").x.type(), 3);
        check.isFalse("type uses the TAPE up", b.x.end(1));
        check.same("type of nothing", b.x.type(), 3);
        check.same("type again", b.tape("\0\377").x.type(), 5);
        check.same("READC", b.callAt(7, 0), 'a');
        check.fails("401", IllegalStateException.class, () -> b.tape(Bench.times('d', 397)).x.type());
        check.isFalse("uses the TAPE up", b.x.end(1));
        check.same("as it was", b.x.look(6), 4);
        check.same("400", b.tape(Bench.times('d', 396)).x.type(), 400);
        check.fails("one more", IllegalStateException.class, () -> b.tape("e").x.type());
        check.same("READC 2", b.callAt(7, 0), 'b');
        check.same("READC 3", b.callAt(7, 0), 'c');
        check.same("READC of a 0", b.callAt(7, 0), 0);
        check.same("READC of a 255", b.callAt(7, 0), 255);
        check.same("READC 6", b.callAt(7, 0), 'd');
        check.same("395 wait", b.x.look(6), 395);
    }

    private static void command() {
        Bench b = new Bench();
        check.same("command", b.tape("run me").x.command(), 6);
        check.isFalse("command uses the TAPE up", b.x.end(1));
        check.same("look", b.x.look(8), 6);
        check.fails("81", IllegalArgumentException.class, () -> b.tape(Bench.times('c', 81)).x.command());
        check.isFalse("uses the TAPE up", b.x.end(1));
        check.fails("a 0", IllegalArgumentException.class, () -> b.tape("a\0b").x.command());
        check.fails("a 0 at the end", IllegalArgumentException.class, () -> b.tape("ab\0").x.command());
        check.same("as it was", b.x.look(8), 6);
        check.same("80", b.tape(Bench.times('c', 80)).x.command(), 80);
        check.same("look 80", b.x.look(8), 80);
        check.same("none", b.x.command(), 0);
        check.same("look none", b.x.look(8), 0);
    }

    private static void clock() {
        Bench b = new Bench();
        b.x.clock(1234567);
        check.same("look", b.x.look(7), 1234567);
        check.same("TIME", b.callAt(17, 0), 1234567);
        b.x.clock(-5);
        check.same("look without sign", b.x.look(7), -5);
        check.same("TIME without sign", b.callAt(17, 0), -5);
    }

    private static void begin() {
        Bench b = new Bench();
        b.lay("f", "xyz");
        b.open("f", 0);
        b.open(":tt", 4);
        b.write(2, "out");
        b.tape("in").x.type();
        b.tape("cmd").x.command();
        b.x.clock(9);
        b.call(2, 7);
        b.tape("left");
        for (int r = 1; r < 32; r++) {
            b.x.set(r, r * 1000);
        }
        int steps = b.x.look(3);
        int calls = b.x.look(4);
        b.x.begin();
        for (int r = 0; r <= 32; r++) {
            check.same("begin: register " + r, b.x.register(r), 0);
        }
        check.same("MEMORY", b.word(Bench.CODE), Rv.MARK_AHEAD);
        check.same("FILES", b.names(), "f");
        check.same("HANDLE 1", b.x.handle(1, 0), 1);
        check.same("HANDLE 2", b.x.handle(2, 0), 3);
        check.same("OUT", b.output(0), "out");
        check.same("IN", b.x.look(6), 2);
        check.same("ERRNO", b.x.look(2), 9);
        check.same("STEPS", b.x.look(3), steps);
        check.same("CALLS", b.x.look(4), calls);
        check.same("latest", b.x.look(5), 2);
        check.same("CLOCK", b.x.look(7), 9);
        check.same("COMMAND", b.x.look(8), 3);
        check.isTrue("TAPE", b.x.end(4));
        b.callAt(24, 5);
        check.same("EXITED", b.x.state(), 1);
        b.x.begin();
        check.same("RUNS again", b.x.state(), 0);
        check.same("CODE of one that runs", b.x.look(1), 0);
        check.same("a STEP upon 0s", b.x.run(3), 1);
        check.same("STOPPED", b.x.state(), 2);
        check.same("TRAP", b.x.look(0), 3);
        b.x.begin();
        check.same("RUNS once more", b.x.state(), 0);
        check.same("TRAP of one that runs", b.x.look(0), 0);
        check.fails("look(9)", NoSuchElementException.class, () -> b.x.look(9));
    }
}
