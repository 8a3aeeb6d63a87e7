/** Terms 2 and 3: each operation of a CALL, how it FAILS, and in which order. */
public final class CallTest {
    private static final Check check = new Check("CallTest");

    private CallTest() {
    }

    public static void main(String[] args) {
        fields();
        areas();
        openFaults();
        openModes();
        openConsole();
        openWhenFull();
        close();
        writeTexts();
        writeFaults();
        writeConsole();
        writeFile();
        writeLimit();
        writeBeyondEnd();
        writeAdd();
        readFaults();
        readFile();
        readConsole();
        smallOnes();
        seek();
        temporaryName();
        remove();
        removeOfTwelve();
        rename();
        times();
        command();
        heap();
        exits();
        elapsed();
        others();
        check.finish();
    }

    /** What a CALL answered, and ERRNO behind it. */
    private static void is(Bench b, String what, int answer, int due, int errno) {
        check.same(what, answer, due);
        check.same(what + ": ERRNO", b.errno(), errno);
        check.same(what + ": PC", b.x.register(32), Bench.CODE + 12);
    }

    private static void fails(Bench b, String what, int answer, int errno) {
        is(b, what, answer, -1, errno);
    }

    private static void fields() {
        int[][] counts = {{1, 3}, {2, 1}, {5, 3}, {6, 3}, {8, 1}, {9, 1}, {10, 2}, {12, 1}, {13, 3}, {14, 2}, {15, 4},
            {18, 2}, {21, 2}, {22, 1}, {32, 2}};
        for (int[] c : counts) {
            String what = "operation " + c[0];
            for (int off = 1; off < 4; off++) {
                Bench crooked = new Bench();
                fails(crooked, what + " at a crooked place", crooked.callAt(c[0], Bench.BLOCK + off), 14);
            }
            int last = 16384 - 4 * c[1];
            Bench outside = new Bench();
            fails(outside, what + " a FIELD outside", outside.callAt(c[0], last + 4), 14);
            Bench far = new Bench();
            fails(far, what + " at the top", far.callAt(c[0], -4), 14);
            Bench inside = new Bench();
            inside.callAt(c[0], last);
            check.isTrue(what + " at the last place", inside.errno() != 14);
        }
    }

    private static void areas() {
        Bench b = new Bench();
        int h = b.open(":tt", 4);
        is(b, "an AREA up to the end", b.call(5, h, 16000, 384), 0, 0);
        is(b, "one byte more", b.call(5, h, 16000, 385), 385, 14);
        is(b, "no bytes at the end", b.call(5, h, 16384, 0), 0, 14);
        is(b, "no bytes beyond it", b.call(5, h, 16385, 0), 0, 14);
        is(b, "round 32 bits", b.call(5, h, 8, -8), -8, 14);
        is(b, "from the top round to 0", b.call(5, h, -8, 16), 16, 14);
        check.same("384 came", b.x.printed(0), 384);
    }

    private static void openFaults() {
        Bench b = new Bench();
        b.bytes(1024, "abc\0");
        fails(b, "mode 12", b.call(1, 1024, 12, 0), 22);
        fails(b, "mode -1", b.call(1, 1024, -1, 3), 22);
        fails(b, "n 0", b.call(1, 20000, 4, 0), 36);
        fails(b, "n 25", b.call(1, 20000, 4, 25), 36);
        fails(b, "n -1", b.call(1, 1024, 4, -1), 36);
        fails(b, "a NAME outside", b.call(1, 16382, 4, 3), 14);
        fails(b, "a NAME at the top", b.call(1, -1, 4, 3), 14);
        fails(b, "a 0 in a NAME", b.call(1, 1024, 4, 4), 22);
        fails(b, "no such FILE", b.call(1, 1024, 0, 3), 2);
        fails(b, "no such FILE, mode 3", b.call(1, 1024, 3, 3), 2);
        check.same("no FILE", b.x.files(), 0);
        check.same("no HANDLE", b.x.handle(1, 0), 0);
        b.bytes(16360, Bench.times('e', 24));
        is(b, "a NAME of 24 at the end", b.call(1, 16360, 4, 24), 1, 2);
        check.same("its NAME", b.name(0), Bench.times('e', 24));
    }

    private static void openModes() {
        int[] rights = {1, 1, 3, 3, 2, 2, 3, 3, 6, 6, 7, 7};
        for (int mode = 0; mode < 12; mode++) {
            Bench b = new Bench();
            b.lay("f", "content");
            is(b, "OPEN " + mode, b.open("f", mode), 1, 0);
            check.same("kind " + mode, b.x.handle(1, 0), 1);
            check.same("PLACE " + mode, b.x.handle(1, 1), 0);
            check.same("FILE " + mode, b.x.handle(1, 2), 0);
            check.same("rights " + mode, b.x.handle(1, 3), rights[mode]);
            check.same("bytes " + mode, b.content(0), mode >= 4 && mode < 8 ? "" : "content");
            if (mode >= 4) {
                is(b, "a new FILE " + mode, b.open("new", mode), 2, 0);
                check.same("it is there " + mode, b.names(), "f new");
                check.same("it is empty " + mode, b.x.file(1, 0), 0);
            } else {
                fails(b, "no FILE " + mode, b.open("new", mode), 2);
            }
        }
    }

    private static void openConsole() {
        for (int mode = 0; mode < 12; mode++) {
            Bench b = new Bench();
            b.lay(":tt", "a file");
            is(b, "OPEN :tt " + mode, b.open(":tt", mode), 1, 0);
            check.same("kind " + mode, b.x.handle(1, 0), mode < 4 ? 2 : mode < 8 ? 3 : 4);
            check.same("rights " + mode, b.x.handle(1, 3), mode < 4 ? 1 : 2);
            check.same("FILE " + mode, b.x.handle(1, 2), -1);
            check.same("PLACE " + mode, b.x.handle(1, 1), 0);
            check.same("the FILE :tt is left " + mode, b.content(0), "a file");
            check.same("and not OPEN " + mode, b.x.file(0, 2), 0);
        }
        Bench b = new Bench();
        is(b, ":ttx is a FILE", b.open(":ttx", 4), 1, 0);
        is(b, ":t is a FILE", b.open(":t", 4), 2, 0);
        is(b, ":tT is a FILE", b.open(":tT", 4), 3, 0);
        is(b, ":xt is a FILE", b.open(":xt", 4), 4, 0);
        is(b, "xtt is a FILE", b.open("xtt", 4), 5, 0);
        check.same("names", b.names(), ":ttx :t :tT :xt xtt");
        b.write(5, "abc");
        b.call(2, 5);
        is(b, "the CONSOLE by a HANDLE that had a FILE", b.open(":tt", 4), 5, 0);
        check.same("its PLACE", b.x.handle(5, 1), 0);
        check.same("its FILE", b.x.handle(5, 2), -1);
        is(b, "WRITE to it", b.write(5, "xyz"), 0, 0);
        check.same("came to OUT", b.output(0), "xyz");
        check.same("not to the FILE", b.content(4), "abc");
    }

    private static void openWhenFull() {
        Bench b = new Bench();
        for (int h = 1; h <= 10; h++) {
            is(b, "OPEN " + h, b.open("f" + h, 4), h, 0);
        }
        fails(b, "an eleventh", b.open("f1", 0), 24);
        fails(b, "an eleventh console", b.open(":tt", 0), 24);
        fails(b, "an eleventh loses no bytes", b.open("f1", 4), 24);
        fails(b, "24 ahead of 2", b.open("none", 0), 24);
        fails(b, "36 ahead of 24", b.call(1, 1024, 0, 0), 36);
        fails(b, "24 ahead of a new FILE", b.open("none", 4), 24);
        check.same("none came", b.x.files(), 10);
        is(b, "CLOSE 7", b.call(2, 7), 0, 24);
        is(b, "CLOSE 4", b.call(2, 4), 0, 24);
        is(b, "the least one", b.open("f11", 8), 4, 24);
        is(b, "the next", b.open("f12", 4), 7, 24);
        b.call(2, 1);
        fails(b, "a 13th FILE", b.open("f13", 4), 28);
        fails(b, "a 13th FILE to ADD", b.open("f13", 11), 28);
        check.same("HANDLE 1 is not OPEN", b.x.handle(1, 0), 0);
        is(b, "one of 12", b.open("f12", 4), 1, 28);
        check.same("12", b.x.files(), 12);
    }

    private static void close() {
        Bench b = new Bench();
        int[] none = {0, 1, 11, -1, Integer.MIN_VALUE, 257};
        for (int h : none) {
            fails(b, "CLOSE " + h, b.call(2, h), 9);
        }
        b.open("f", 4);
        is(b, "CLOSE", b.call(2, 1), 0, 9);
        check.same("not OPEN", b.x.handle(1, 0), 0);
        check.same("the FILE stays", b.x.files(), 1);
        fails(b, "CLOSE again", b.call(2, 1), 9);
        for (int h = 1; h <= 10; h++) {
            b.open("f", 0);
        }
        is(b, "CLOSE 10", b.call(2, 10), 0, 9);
        fails(b, "CLOSE 11", b.call(2, 11), 9);
    }

    private static void writeTexts() {
        Bench b = new Bench();
        b.bytes(1025, "hi\0");
        is(b, "WRITEC", b.callAt(3, 1025), 0, 0);
        is(b, "WRITEC of a 0", b.callAt(3, 16383), 0, 0);
        fails(b, "WRITEC outside", b.callAt(3, 16384), 14);
        fails(b, "WRITEC at the top", b.callAt(3, -1), 14);
        is(b, "WRITE0", b.callAt(4, 1025), 0, 14);
        is(b, "WRITE0 of nothing", b.callAt(4, 1027), 0, 14);
        check.same("OUT", b.output(0), "h\0hi");
        b.bytes(16381, "end");
        fails(b, "WRITE0 without 0", b.callAt(4, 16381), 14);
        fails(b, "WRITE0 outside", b.callAt(4, 16384), 14);
        fails(b, "WRITE0 at the top", b.callAt(4, -5), 14);
        check.same("nothing came", b.x.printed(0), 4);
        b.bytes(16381, "en\0");
        is(b, "WRITE0 with the last 0", b.callAt(4, 16381), 0, 14);
        check.same("OUT at last", b.output(0), "h\0hien");
        check.same("ERR", b.x.printed(1), 0);
        b.bytes(0, "zero\0");
        is(b, "WRITE0 at 0", b.callAt(4, 0), 0, 14);
        check.same("OUT from 0 on", b.output(0), "h\0hienzero");
    }

    private static void writeFaults() {
        Bench b = new Bench();
        b.lay("f", "abc");
        b.open("f", 0);
        b.open("f", 2);
        b.open(":tt", 0);
        is(b, "WRITE, HANDLE 0", b.call(5, 0, 4096, 3), 3, 9);
        is(b, "WRITE, HANDLE 4", b.call(5, 4, 4096, 7), 7, 9);
        is(b, "WRITE, may not", b.call(5, 1, 4096, 5), 5, 9);
        is(b, "WRITE to IN", b.call(5, 3, 4096, 5), 5, 9);
        is(b, "9 ahead of 14", b.call(5, 1, 20000, -5), -5, 9);
        is(b, "WRITE outside", b.call(5, 2, 16384, 1), 1, 14);
        is(b, "WRITE of far too many", b.call(5, 2, 0, -1), -1, 14);
        fails(b, "WRITE without FIELDS answers -1", b.callAt(5, 16376), 14);
        check.same("the FILE is left", b.content(0), "abc");
        check.same("PLACE is left", b.x.handle(2, 1), 0);
        b.callAt(2, 16383);
        check.same("an ERRNO", b.errno(), 14);
        is(b, "WRITE of nothing", b.call(5, 2, 4096, 0), 0, 14);
        is(b, "WRITE of nothing, no HANDLE", b.call(5, 9, 4096, 0), 0, 9);
    }

    private static void writeConsole() {
        Bench b = new Bench();
        int out = b.open(":tt", 4);
        int err = b.open(":tt", 8);
        is(b, "to OUT", b.write(out, "out"), 0, 0);
        is(b, "to ERR", b.write(err, "er\0r"), 0, 0);
        is(b, "nothing", b.call(5, out, 4096, 0), 0, 0);
        check.same("OUT", b.output(0), "out");
        check.same("ERR", b.output(1), "er\0r");
        check.same("PLACE", b.x.handle(out, 1), 0);
        is(b, "many", b.call(5, out, 0, 16384), 0, 0);
        check.same("all are counted", b.x.printed(0), 16387);
        check.same("2,000 are kept", b.output(0).length(), 2000);
        check.same("none behind", b.x.print(0, 2000), -1);
        is(b, "OUT and ERR are two", b.write(err, "x"), 0, 0);
        check.same("ERR has it", b.x.print(1, 4), 'x');
    }

    private static void writeFile() {
        Bench b = new Bench();
        b.lay("f", "abcdef");
        b.open("f", 2);
        is(b, "WRITE", b.write(1, "XY"), 0, 0);
        check.same("in place of what is there", b.content(0), "XYcdef");
        check.same("PLACE", b.x.handle(1, 1), 2);
        b.call(10, 1, 5);
        is(b, "WRITE over the end", b.write(1, "123"), 0, 0);
        check.same("and behind", b.content(0), "XYcde123");
        check.same("PLACE at the end", b.x.handle(1, 1), 8);
        is(b, "WRITE at the end", b.write(1, "\377\0"), 0, 0);
        check.same("grown", b.content(0), "XYcde123\377\0");
    }

    private static void writeLimit() {
        Bench b = new Bench();
        b.lay("f", Bench.times('a', 1998));
        b.open("f", 2);
        b.call(10, 1, 1998);
        is(b, "two of five", b.write(1, "12345"), 3, 28);
        check.same("2,000", b.x.file(0, 0), 2000);
        check.same("the last one", b.x.fileByte(0, 1999, false), '2');
        check.same("PLACE 2,000", b.x.handle(1, 1), 2000);
        b.callAt(2, 1);
        is(b, "none of one", b.write(1, "x"), 1, 28);
        check.same("PLACE stays", b.x.handle(1, 1), 2000);
        b.callAt(2, 1);
        is(b, "none of none", b.call(5, 1, 0, 0), 0, 14);
        b.call(10, 1, 0);
        is(b, "16,384 from 0 on", b.call(5, 1, 0, 16384), 14384, 28);
        check.same("2,000 still", b.x.file(0, 0), 2000);
        check.same("the first word", b.x.fileByte(0, Bench.CODE, false), 0x13);
    }

    private static void writeBeyondEnd() {
        Bench b = new Bench();
        b.lay("f", "abcdefgh");
        b.open("f", 2);
        b.call(10, 1, 6);
        b.open("f", 4);
        check.same("PLACE beyond the end", b.x.handle(1, 1), 6);
        check.same("no bytes", b.x.file(0, 0), 0);
        is(b, "WRITE of none there", b.call(5, 1, 4096, 0), 0, 0);
        check.same("no bytes still", b.x.file(0, 0), 0);
        is(b, "READ there", b.call(6, 1, 4096, 3), 3, 0);
        check.same("PLACE stays", b.x.handle(1, 1), 6);
        b.write(2, "X");
        is(b, "WRITE there", b.write(1, "Z"), 0, 0);
        check.same("0s between", b.content(0), "X\0\0\0\0\0Z");
        check.same("PLACE behind", b.x.handle(1, 1), 7);
        Bench full = new Bench();
        full.lay("f", Bench.times('a', 2000));
        full.open("f", 2);
        full.call(10, 1, 2000);
        full.open("f", 4);
        is(full, "WRITE at 2,000 of none", full.write(1, "Z"), 1, 28);
        check.same("none came, no 0s", full.x.file(0, 0), 0);
    }

    private static void writeAdd() {
        Bench b = new Bench();
        b.lay("f", "abc");
        b.open("f", 10);
        check.same("PLACE at first", b.x.handle(1, 1), 0);
        is(b, "READ", b.call(6, 1, 4096, 2), 0, 0);
        is(b, "ADD", b.write(1, "de"), 0, 0);
        check.same("at the end", b.content(0), "abcde");
        check.same("PLACE", b.x.handle(1, 1), 5);
        b.call(10, 1, 1);
        is(b, "ADD of none", b.call(5, 1, 4096, 0), 0, 0);
        check.same("PLACE is the end", b.x.handle(1, 1), 5);
        b.call(10, 1, 0);
        is(b, "ADD outside", b.call(5, 1, 16384, 1), 1, 14);
        check.same("PLACE is left", b.x.handle(1, 1), 0);
        b.open("f", 8);
        is(b, "READ, may not", b.call(6, 2, 4096, 2), 2, 9);
        b.write(2, "fg");
        check.same("by another HANDLE", b.content(0), "abcdefg");
        b.write(1, Bench.times('z', 1990));
        check.same("up to 1,997", b.x.file(0, 0), 1997);
        is(b, "ADD beyond", b.write(2, "12345"), 2, 28);
        check.same("PLACE 2,000", b.x.handle(2, 1), 2000);
        b.call(10, 1, 3);
        is(b, "ADD to a full one", b.write(1, "12"), 2, 28);
        check.same("PLACE is the end of it", b.x.handle(1, 1), 2000);
    }

    private static void readFaults() {
        Bench b = new Bench();
        b.lay("f", "abc");
        b.open("f", 4);
        b.lay("g", "abc");
        b.open("g", 0);
        b.open(":tt", 5);
        is(b, "READ, HANDLE 0", b.call(6, 0, 4096, 3), 3, 9);
        is(b, "READ, HANDLE 12", b.call(6, 12, 4096, 3), 3, 9);
        is(b, "READ, may not", b.call(6, 1, 4096, 4), 4, 9);
        is(b, "READ from OUT", b.call(6, 3, 4096, 4), 4, 9);
        is(b, "9 ahead of 14", b.call(6, 1, 16384, 4), 4, 9);
        is(b, "READ outside, though 3 would fit", b.call(6, 2, 16380, 5), 5, 14);
        check.same("PLACE is left", b.x.handle(2, 1), 0);
        is(b, "READ of none", b.call(6, 2, 4096, 0), 0, 14);
        fails(b, "READ without FIELDS answers -1", b.callAt(6, 16376), 14);
    }

    private static void readFile() {
        Bench b = new Bench();
        b.lay("f", "abcde\0\377");
        b.open("f", 0);
        is(b, "READ", b.call(6, 1, 2000, 3), 0, 0);
        check.same("bytes", b.memory(2000, 4), "abc\0");
        check.same("PLACE", b.x.handle(1, 1), 3);
        is(b, "READ to the end", b.call(6, 1, 2000, 10), 6, 0);
        check.same("more bytes", b.memory(2000, 5), "de\0\377\0");
        check.same("PLACE at the end", b.x.handle(1, 1), 7);
        is(b, "READ at the end", b.call(6, 1, 2000, 10), 10, 0);
        check.same("none came", b.memory(2000, 4), "de\0\377");
        b.open("f", 0);
        is(b, "another HANDLE has its own PLACE", b.call(6, 2, 16383, 1), 0, 0);
        check.same("at the last place", b.x.peek(16383), 'a');
    }

    private static void readConsole() {
        Bench b = new Bench();
        b.open(":tt", 0);
        is(b, "READ of an empty IN", b.call(6, 1, 2000, 5), 5, 0);
        b.tape("abcdef").x.type();
        is(b, "READ", b.call(6, 1, 2000, 2), 0, 0);
        check.same("bytes", b.memory(2000, 3), "ab\0");
        check.same("they are gone", b.x.look(6), 4);
        is(b, "READC", b.callAt(7, 3), 'c', 0);
        is(b, "READ of more", b.call(6, 1, 2000, 9), 6, 0);
        check.same("more bytes", b.memory(2000, 4), "def\0");
        check.same("none wait", b.x.look(6), 0);
        fails(b, "an ERRNO", b.call(2, 3), 9);
        is(b, "READC of none leaves ERRNO", b.callAt(7, 3), -1, 9);
        check.same("PLACE of the CONSOLE", b.x.handle(1, 1), 0);
    }

    private static void smallOnes() {
        Bench b = new Bench();
        is(b, "ISERROR -1", b.call(8, -1), 1, 0);
        is(b, "ISERROR least", b.call(8, Integer.MIN_VALUE), 1, 0);
        is(b, "ISERROR greatest", b.call(8, Integer.MAX_VALUE), 0, 0);
        is(b, "ISERROR 0", b.call(8, 0), 0, 0);
        b.lay("f", "abc");
        b.open("f", 0);
        b.open(":tt", 0);
        b.open(":tt", 9);
        is(b, "ISTTY of a FILE", b.call(9, 1), 0, 0);
        is(b, "ISTTY of IN", b.call(9, 2), 1, 0);
        is(b, "ISTTY of ERR", b.call(9, 3), 1, 0);
        fails(b, "ISTTY of none", b.call(9, 4), 9);
        is(b, "FLEN", b.call(12, 1), 3, 9);
        is(b, "FLEN of the CONSOLE", b.call(12, 2), 0, 9);
        b.callAt(3, -1);
        fails(b, "FLEN of none", b.call(12, 0), 9);
        is(b, "ERRNO", b.callAt(19, 1), 9, 9);
        fails(b, "SYSTEM", b.call(18, 0, 0), 38);
        is(b, "ERRNO again", b.callAt(19, -1), 38, 38);
    }

    private static void seek() {
        Bench b = new Bench();
        b.lay("f", "abc");
        b.open("f", 0);
        b.open(":tt", 0);
        is(b, "SEEK 3", b.call(10, 1, 3), 0, 0);
        check.same("PLACE", b.x.handle(1, 1), 3);
        fails(b, "SEEK 4", b.call(10, 1, 4), 22);
        fails(b, "SEEK -1", b.call(10, 1, -1), 22);
        check.same("PLACE stays", b.x.handle(1, 1), 3);
        is(b, "SEEK 0", b.call(10, 1, 0), 0, 22);
        fails(b, "SEEK of none", b.call(10, 3, 0), 9);
        fails(b, "SEEK of the CONSOLE", b.call(10, 2, 0), 22);
        fails(b, "9 ahead of 22", b.call(10, 3, 99), 9);
    }

    private static void temporaryName() {
        Bench b = new Bench();
        b.bytes(2000, "********");
        is(b, "TMPNAM", b.call(13, 2000, 7, 7), 0, 0);
        check.same("its bytes", b.memory(2000, 8), "tmp007\0*");
        is(b, "TMPNAM 255", b.call(13, 16377, 255, -1), 0, 0);
        check.same("at the end", b.memory(16377, 7), "tmp255\0");
        is(b, "TMPNAM 0", b.call(13, 2001, 0, 7), 0, 0);
        check.same("no digits but 0", b.memory(2001, 7), "tmp000\0");
        is(b, "TMPNAM 200", b.call(13, 2001, 200, 7), 0, 0);
        check.same("hundreds", b.memory(2001, 7), "tmp200\0");
        is(b, "TMPNAM 90", b.call(13, 2001, 90, 100), 0, 0);
        check.same("digits", b.memory(2001, 7), "tmp090\0");
        fails(b, "256", b.call(13, 2000, 256, 7), 22);
        fails(b, "-1", b.call(13, 2000, -1, 7), 22);
        fails(b, "n 6", b.call(13, 2000, 1, 6), 22);
        fails(b, "n 0", b.call(13, 20000, 1, 0), 22);
        fails(b, "outside", b.call(13, 16378, 1, 7), 14);
        fails(b, "at the top", b.call(13, -1, 1, 7), 14);
        check.same("nothing happened", b.memory(2000, 8), "ttmp090\0");
    }

    private static void remove() {
        Bench b = new Bench();
        b.lay("a", "1");
        b.lay("b", "22");
        b.lay("c", "333");
        b.lay(":tt", "4444");
        fails(b, "n 0", b.call(14, 1024, 0), 36);
        fails(b, "n 25", b.call(14, 1024, 25), 36);
        fails(b, "outside", b.call(14, 16384, 1), 14);
        fails(b, "a 0", b.remove("a\0"), 22);
        fails(b, "none such", b.remove("d"), 2);
        b.open("c", 0);
        fails(b, "OPEN", b.remove("c"), 16);
        check.same("all are there", b.names(), "a b c :tt");
        is(b, "REMOVE", b.remove("a"), 0, 16);
        check.same("those behind come down", b.names(), "b c :tt");
        check.same("with their bytes", b.content(1), "333");
        check.same("the HANDLE's FILE came down", b.x.handle(1, 2), 1);
        check.same("and it is OPEN still", b.x.file(1, 2), 1);
        is(b, "REMOVE :tt", b.remove(":tt"), 0, 16);
        b.call(2, 1);
        is(b, "REMOVE behind CLOSE", b.remove("c"), 0, 16);
        is(b, "a new one comes last", b.open("a", 4), 1, 16);
        check.same("names", b.names(), "b a");
        check.same("without bytes", b.x.file(1, 0), 0);
        check.same("its number", b.x.handle(1, 2), 1);
        b.lay("gone", "bytes");
        b.remove("gone");
        is(b, "a new one to ADD", b.open("next", 8), 2, 16);
        check.same("has none of what is gone", b.x.file(2, 0), 0);
        check.same("nor its NAME", b.names(), "b a next");
    }

    private static void removeOfTwelve() {
        Bench b = new Bench();
        for (int i = 0; i < 12; i++) {
            b.lay("f" + i, Bench.times('x', i));
        }
        b.open(":tt", 0);
        check.same("the CONSOLE has none of twelve", b.x.handle(1, 2), -1);
        is(b, "REMOVE of the last", b.remove("f11"), 0, 0);
        check.same("eleven", b.x.files(), 11);
        b.lay("g", "new");
        is(b, "REMOVE of the first", b.remove("f0"), 0, 0);
        check.same("eleven again", b.names(), "f1 f2 f3 f4 f5 f6 f7 f8 f9 f10 g");
        check.same("bytes of the last", b.content(10), "new");
        check.same("bytes of the first", b.x.file(0, 0), 1);
        is(b, "room for one", b.open("h", 8), 2, 0);
        fails(b, "and no more", b.open("i", 8), 28);
    }

    private static void rename() {
        Bench b = new Bench();
        b.lay("a", "1");
        b.lay("b", "22");
        fails(b, "the first NAME", b.call(15, 1024, 0, 20000, 0), 36);
        fails(b, "the first NAME outside", b.call(15, 16384, 1, 20000, 0), 14);
        b.bytes(1024, "a");
        fails(b, "the second NAME", b.call(15, 1024, 1, 20000, 0), 36);
        fails(b, "the second NAME outside", b.call(15, 1024, 1, 20000, 1), 14);
        fails(b, "a 0 in the second", b.rename("none", "x\0"), 22);
        fails(b, "none such", b.rename("none", "b"), 2);
        b.open("a", 0);
        fails(b, "OPEN, ahead of 17", b.rename("a", "b"), 16);
        fails(b, "OPEN, its own NAME", b.rename("a", "a"), 16);
        fails(b, "taken by one that is OPEN", b.rename("b", "a"), 17);
        b.call(2, 1);
        fails(b, "taken", b.rename("a", "b"), 17);
        is(b, "its own NAME", b.rename("a", "a"), 0, 17);
        is(b, "RENAME", b.rename("a", Bench.times('z', 24)), 0, 17);
        check.same("no order is changed", b.names(), Bench.times('z', 24) + " b");
        is(b, "RENAME to a short one", b.rename(Bench.times('z', 24), ":tt"), 0, 17);
        check.same("names", b.names(), ":tt b");
        check.same("bytes stay", b.content(0), "1");
        is(b, "RENAME back", b.rename(":tt", "a"), 0, 17);
        check.same("names at last", b.names(), "a b");
    }

    private static void times() {
        Bench b = new Bench();
        b.words(0, Rv.jal(0, 0));
        is(b, "CLOCK behind 2 STEPS", b.callAt(16, 1), 0, 0);
        b.x.set(32, 0);
        b.x.run(96);
        is(b, "CLOCK in the 100th STEP", b.callAt(16, 0), 1, 0);
        b.x.set(32, 0);
        b.x.run(97);
        is(b, "CLOCK in the 199th STEP", b.callAt(16, 0), 1, 0);
        b.x.clock(77);
        is(b, "TIME", b.callAt(17, 3), 77, 0);
        is(b, "ticks", b.callAt(49, 3), 1000, 0);
        b.x.begin();
        b.x.run(4801);
        is(b, "CLOCK behind begin()", b.callAt(16, 0), 50, 0);
    }

    private static void command() {
        Bench b = new Bench();
        b.bytes(2000, "****");
        is(b, "none", b.call(21, 2000, 1), 0, 0);
        check.same("its 0", b.memory(2000, 2), "\0*");
        check.same("its size", b.word(Bench.BLOCK + 4), 0);
        fails(b, "n 0", b.call(21, 2000, 0), 22);
        b.tape("run me").x.command();
        fails(b, "n 6", b.call(21, 20000, 6), 22);
        fails(b, "outside", b.call(21, 16378, 7), 14);
        fails(b, "at the top", b.call(21, -1, 7), 14);
        is(b, "n 7 at the end", b.call(21, 16377, 7), 0, 14);
        check.same("at the end", b.memory(16377, 7), "run me\0");
        check.same("size", b.word(Bench.BLOCK + 4), 6);
        b.bytes(1990, "********************");
        is(b, "n without sign", b.call(21, 2000, -1), 0, 14);
        check.same("its bytes, and nothing round them", b.memory(1999, 9), "*run me\0*");
        check.same("nor ahead", b.memory(1990, 10), "**********");
        is(b, "more room than the MEMORY has", b.call(21, 16377, 5000), 0, 14);
        is(b, "over its own FIELD", b.call(21, Bench.BLOCK + 2, 80), 0, 14);
        check.same("the size comes last", b.memory(Bench.BLOCK + 2, 7), "ru\6\0\0\0\0");
    }

    private static void heap() {
        Bench b = new Bench();
        is(b, "HEAP", b.call(22, 2000), 0, 0);
        check.same("1", b.word(2000), 8192);
        check.same("2", b.word(2004), 12288);
        check.same("3", b.word(2008), 16384);
        check.same("4", b.word(2012), 12288);
        fails(b, "crooked", b.call(22, 2002), 14);
        fails(b, "outside", b.call(22, 16372), 14);
        fails(b, "at the top", b.call(22, -4), 14);
        is(b, "at the end", b.call(22, 16368), 0, 14);
        check.same("its last word", b.word(16380), 12288);
    }

    private static void exit(String what, Bench b, int operation, int code) {
        check.same(what + ": state", b.x.state(), 1);
        check.same(what + ": CODE", b.x.look(1), code);
        check.same(what + ": no TRAP", b.x.look(0), 0);
        check.same(what + ": register 10", b.x.register(10), operation);
        check.same(what + ": PC", b.x.register(32), Bench.CODE + 4);
        check.same(what + ": STEPS", b.x.look(3), 2);
        check.same(what + ": CALLS", b.x.look(4), 1);
        check.same(what + ": latest", b.x.look(5), operation);
        check.same(what + ": run", b.x.run(9), 0);
    }

    private static void exits() {
        int[][] ends = {{131110, 0}, {131109, 1}, {0, 1}, {-1, 1}};
        for (int[] e : ends) {
            Bench b = new Bench();
            b.callAt(24, e[0]);
            exit("EXIT " + e[0], b, 24, e[1]);
        }
        int[][] two = {{131110, 42, 42}, {131110, 0, 0}, {131110, -7, -7}, {131111, 42, 1}, {0, 0, 1}};
        for (int[] e : two) {
            Bench b = new Bench();
            b.call(32, e[0], e[1]);
            exit("EXIT of two " + e[0], b, 32, e[2]);
        }
        Bench b = new Bench();
        fails(b, "EXIT without FIELDS", b.callAt(32, 16380), 14);
        check.same("it RUNS", b.x.state(), 0);
        fails(b, "EXIT of 131110 as two", b.callAt(32, 131110), 14);
    }

    private static void elapsed() {
        Bench b = new Bench();
        b.bytes(2000, "*********");
        is(b, "ELAPSED", b.callAt(48, 2000), 0, 0);
        check.same("low", b.word(2000), 2);
        check.same("high", b.word(2004), 0);
        check.same("8 bytes", b.x.peek(2008), '*');
        b.words(0, Rv.jal(0, 0));
        b.x.set(32, 0);
        b.x.run(5000);
        is(b, "ELAPSED later, at the end", b.callAt(48, 16376), 0, 0);
        check.same("all STEPS", b.word(16376), 5004);
        fails(b, "crooked", b.callAt(48, 2002), 14);
        fails(b, "outside", b.callAt(48, 16380), 14);
        fails(b, "at the top", b.callAt(48, -8), 14);
    }

    private static void others() {
        int[] none = {0, 11, 20, 23, 25, 31, 33, 47, 50, 256, 257, -1, Integer.MIN_VALUE, Integer.MIN_VALUE + 1};
        Bench b = new Bench();
        int calls = 0;
        for (int operation : none) {
            fails(b, "operation " + operation, b.callAt(operation, 3), 38);
            calls++;
            check.same("CALLS", b.x.look(4), calls);
            check.same("latest", b.x.look(5), operation);
            b.callAt(3, 20000);
            calls++;
        }
    }
}
