/** Terms 2 and 3, sentence by sentence: boundary cases of CALLS, and what a CALL that FAILS leaves. */
public final class HostEdgeTest {
    private static final Check check = new Check("HostEdgeTest");
    private static final int LEAST = Integer.MIN_VALUE;
    private static final int MOST = Integer.MAX_VALUE;
    private static final int BLOCK = Bench.BLOCK;
    private static final int NAME = 1024;
    private static final int OTHER = 1100;
    /** Of each operation with FIELDS: how many, and some with which it does not FAIL (SYSTEM always does). */
    private static final int[][] WITH_FIELDS = {{1, 3, NAME, 4, 3}, {2, 1, 1}, {5, 3, 3, NAME, 3}, {6, 3, 1, 2000, 2},
        {8, 1, 5}, {9, 1, 1}, {10, 2, 1, 3}, {12, 1, 1}, {13, 3, 2000, 7, 7}, {14, 2, NAME, 3}, {15, 4, NAME, 3, OTHER, 2},
        {18, 2, 0, 0}, {21, 2, 2000, 80}, {22, 1, 2000}, {32, 2, 131110, 9}};

    private HostEdgeTest() {
    }

    public static void main(String[] args) {
        crookedFields();
        fieldsOutside();
        fieldsAtTheEdges();
        areas();
        namesLength();
        namesArea();
        namesZero();
        handles();
        open();
        openWhenAllAreOpen();
        openWithoutFile();
        openAsThirteenth();
        openConsole();
        openPlaceAndLeast();
        close();
        writeCharacter();
        writeText();
        writeRights();
        writeArea();
        writeConsole();
        writeFile();
        writeLimit();
        writeBehindEnd();
        writeNothing();
        writeAdd();
        readRights();
        readArea();
        readConsole();
        readFile();
        readCharacter();
        isError();
        isConsole();
        seek();
        length();
        temporaryName();
        remove();
        rename();
        renameOrder();
        clocks();
        system();
        errno();
        command();
        commandOverFields();
        heap();
        exit();
        exitOfTwo();
        elapsed();
        others();
        steps();
        check.finish();
    }

    private static Scene scene() {
        return new Scene(check);
    }

    private static int[] fieldsOf(int[] row) {
        return java.util.Arrays.copyOfRange(row, 2, row.length);
    }

    /** A scene in which the CALLS of the table do not FAIL. */
    private static Scene tableScene() {
        Scene s = scene();
        s.b.lay("new", "x");
        return s.name(NAME, "new").name(OTHER, "nx");
    }

    private static void crookedFields() {
        check.about("An operation that has FIELDS FAILS with 14, if A is no multiple of 4");
        for (int[] row : WITH_FIELDS) {
            for (int off = 1; off < 4; off++) {
                tableScene().fields(fieldsOf(row)).failsAt("operation " + row[0] + " at " + off, 14, -1, row[0],
                        BLOCK + off);
            }
        }
        check.about("ahead of all else that is told of it");
        scene().failsAt("OPEN, no HANDLE, no NAME", 14, -1, 1, 2);
        scene().failsAt("SYSTEM", 14, -1, 18, 2);
    }

    private static void fieldsOutside() {
        check.about("or one of its FIELDS is not in the MEMORY");
        for (int[] row : WITH_FIELDS) {
            int[] places = {16384 - 4 * row[1] + 4, 16384, LEAST, MOST - 3, -4 * row[1], -4};
            for (int a : places) {
                tableScene().failsAt("operation " + row[0] + " at " + a, 14, -1, row[0], a);
            }
        }
    }

    private static void fieldsAtTheEdges() {
        check.about("one of its FIELDS is not in the MEMORY: the first and the last place where they are");
        for (int[] row : WITH_FIELDS) {
            int[] places = {0, 16384 - 4 * row[1]};
            for (int a : places) {
                Bench b = tableScene().b;
                b.words(a, fieldsOf(row));
                b.callAt(row[0], a);
                check.same("operation " + row[0] + " at " + a + ": ERRNO", b.errno(), 38);
                check.same("operation " + row[0] + " at " + a + ": CODE", b.x.look(1), row[0] == 32 ? 9 : 0);
            }
        }
    }

    private static void areas() {
        check.about("an AREA of n bytes at p is in the MEMORY if p + n, exactly, is not above 16384");
        int[][] outside = {{0, 16385}, {1, 16384}, {16384, 1}, {16383, 2}, {16385, 0}, {-1, 0}, {LEAST, 0}, {0, -1},
            {8, -8}, {-8, 8}, {-8, 16}, {LEAST, LEAST}, {MOST, MOST}, {-1, -1}, {1, -1}, {-1, 1}};
        for (int[] area : outside) {
            scene().failsWithN("WRITE of " + area[1] + " at " + area[0], 14, 5, Scene.OUT, area[0], area[1]);
            scene().failsWithN("READ of " + area[1] + " at " + area[0], 14, 6, Scene.BOTH, area[0], area[1]);
        }
        int[][] inside = {{0, 16384}, {16384, 0}, {16383, 1}, {16383, 0}, {0, 0}};
        for (int[] area : inside) {
            Bench b = scene().b;
            check.same("WRITE of " + area[1] + " at " + area[0], b.call(5, Scene.OUT, area[0], area[1]), 0);
            check.same("printed", b.x.printed(0), 3 + area[1]);
            check.same("ERRNO", b.errno(), 38);
        }
    }

    /** A CALL of each operation that has a NAME by place and n; the other NAME of RENAME is a good one. */
    private static void failsOfName(String what, int e, String bytes, int place, int n) {
        if (place >= 0 && place < 16384) {
            scene().name(place, bytes).fails("OPEN 0: " + what, e, 1, place, 0, n);
            scene().name(place, bytes).fails("OPEN 11: " + what, e, 1, place, 11, n);
            scene().name(place, bytes).fails("REMOVE: " + what, e, 14, place, n);
            scene().name(place, bytes).name(OTHER, "nx").fails("RENAME: " + what, e, 15, place, n, OTHER, 2);
            scene().name(place, bytes).name(OTHER, ":tt").fails("RENAME to: " + what, e, 15, OTHER, 3, place, n);
        } else {
            scene().fails("OPEN 0: " + what, e, 1, place, 0, n);
            scene().fails("OPEN 11: " + what, e, 1, place, 11, n);
            scene().fails("REMOVE: " + what, e, 14, place, n);
            scene().name(OTHER, "nx").fails("RENAME: " + what, e, 15, place, n, OTHER, 2);
            scene().name(OTHER, ":tt").fails("RENAME to: " + what, e, 15, OTHER, 3, place, n);
        }
    }

    private static void namesLength() {
        check.about("A NAME told by place and n: 36, if n is 0 or above 24");
        failsOfName("n 0", 36, "new", NAME, 0);
        failsOfName("n 25", 36, Bench.times('n', 25), NAME, 25);
        failsOfName("n -1", 36, "new", NAME, -1);
        failsOfName("the highest bit of n", 36, "new", NAME, LEAST + 3);
        failsOfName("36 ahead of 14", 36, "", 16385, 0);
        failsOfName("36 ahead of 14, n 25", 36, "", 16384, 25);
        failsOfName("36 ahead of 22", 36, Bench.times('\0', 25), NAME, 25);
        int[] lengths = {1, 2, 23, 24};
        for (int n : lengths) {
            Bench b = scene().b;
            String name = Bench.times('n', n);
            check.same("OPEN of " + n, b.open(name, 4), Scene.SHUT);
            check.same("its NAME", b.name(3), name);
            b.call(2, Scene.SHUT);
            String other = Bench.times('o', n);
            check.same("RENAME of " + n, b.rename(name, other), 0);
            check.same("its other NAME", b.name(3), other);
            check.same("REMOVE of " + n, b.remove(other), 0);
            check.same("FILES", b.x.files(), 3);
        }
    }

    private static void namesArea() {
        check.about("14, if its AREA is not in the MEMORY");
        failsOfName("at 16384", 14, "", 16384, 1);
        failsOfName("one byte beyond", 14, "nn", 16382, 3);
        failsOfName("24 of which one is beyond", 14, Bench.times('n', 23), 16361, 24);
        failsOfName("at the top", 14, "", -1, 3);
        failsOfName("at 2 to the 31st", 14, "", LEAST, 3);
        failsOfName("14 ahead of 22", 14, "\0\0", 16382, 3);
        Bench b = scene().b;
        b.bytes(16360, Bench.times('e', 24));
        check.same("a NAME at the end", b.call(1, 16360, 4, 24), Scene.SHUT);
        check.same("it", b.name(3), Bench.times('e', 24));
        b.bytes(0, "z");
        check.same("a NAME at 0", b.call(1, 0, 4, 1), Scene.SHUT + 1);
        check.same("it too", b.name(4), "z");
    }

    private static void namesZero() {
        check.about("22, if one of its bytes is 0");
        failsOfName("the first", 22, "\0bc", NAME, 3);
        failsOfName("one between", 22, "a\0c", NAME, 3);
        failsOfName("the last", 22, "ab\0", NAME, 3);
        failsOfName("the only one", 22, "\0", NAME, 1);
        failsOfName("the last of 24", 22, Bench.times('n', 23) + "\0", NAME, 24);
        Bench b = scene().b;
        b.bytes(NAME, "ab\0");
        check.same("a 0 behind it", b.call(1, NAME, 4, 2), Scene.SHUT);
        check.same("its NAME", b.name(3), "ab");
    }

    private static void handles() {
        check.about("A HANDLE: 9, if none such is OPEN");
        int[] operations = {2, 9, 12};
        for (int h : Scene.NO_HANDLES) {
            for (int operation : operations) {
                scene().fails("operation " + operation + " of " + h, 9, operation, h);
            }
            scene().fails("SEEK of " + h, 9, 10, h, 0);
            scene().failsWithN("WRITE of " + h, 9, 5, h, 2000, 4);
            scene().failsWithN("READ of " + h, 9, 6, h, 2000, 4);
        }
        Bench b = scene().b;
        for (int h = Scene.SHUT; h <= 10; h++) {
            check.same("OPEN", b.open("b", 0), h);
        }
        check.same("FLEN of HANDLE 10", b.call(12, 10), 4);
        check.same("CLOSE of HANDLE 10", b.call(2, 10), 0);
        check.same("FLEN of HANDLE 10 behind CLOSE", b.call(12, 10), -1);
        check.same("FLEN of HANDLE 9", b.call(12, 9), 4);
    }

    private static void open() {
        check.about("22, if the mode is above 11");
        int[] modes = {12, 13, 16, 256, MOST, LEAST, LEAST + 4, -1};
        for (int mode : modes) {
            scene().name(NAME, "b").fails("mode " + mode, 22, 1, NAME, mode, 1);
        }
        check.about("22, if the mode is above 11; the NAME's: of several that hold the first told counts");
        scene().fails("mode 12 and n 0", 22, 1, NAME, 12, 0);
        scene().fails("mode 12 and a NAME outside", 22, 1, 16384, 12, 1);
        check.about("modes 0 to 3 it may READ, with 2, 3 WRITE too; 4 to 7 WRITE; 8 to 11 WRITE and ADD; 6, 7, 10, 11 READ");
        int[] rights = {1, 1, 3, 3, 2, 2, 3, 3, 6, 6, 7, 7};
        for (int mode = 0; mode < 12; mode++) {
            boolean isCut = mode >= 4 && mode < 8;
            Scene s = scene().name(NAME, "b").fields(NAME, mode, 1);
            s.answersAt("mode " + mode, 7, 1, BLOCK, "handle 7 0", "handle 7 1", "handle 7 2", "handle 7 3", "file 1 2",
                    isCut ? "file 1 0" : "", isCut ? "byte 1 0" : "", isCut ? "byte 1 1" : "", isCut ? "byte 1 2" : "",
                    isCut ? "byte 1 3" : "");
            check.same("rights of mode " + mode, s.b.x.handle(7, 3), rights[mode]);
            check.same("kind of mode " + mode, s.b.x.handle(7, 0), 1);
            check.same("PLACE of mode " + mode, s.b.x.handle(7, 1), 0);
            check.same("FILE of mode " + mode, s.b.x.handle(7, 2), 1);
            check.same("bytes of mode " + mode, s.b.content(1), isCut ? "" : "beta");
            check.same("HANDLES of mode " + mode, s.b.x.file(1, 2), 2);
        }
    }

    /** A host whose ten HANDLES are OPEN; it has the FILES a, b and :tt. */
    private static Scene allOpen() {
        Scene s = scene();
        for (int h = Scene.SHUT; h <= 10; h++) {
            s.b.open("a", 0);
        }
        return s;
    }

    private static void openWhenAllAreOpen() {
        check.about("24, if all HANDLES are OPEN");
        for (int mode = 0; mode < 12; mode += 4) {
            allOpen().name(NAME, ":tt").fails("the CONSOLE, mode " + mode, 24, 1, NAME, mode, 3);
            allOpen().name(NAME, "b").fails("a FILE, mode " + mode, 24, 1, NAME, mode, 1);
            allOpen().name(NAME, "new").fails("no FILE, mode " + mode, 24, 1, NAME, mode, 3);
        }
        check.about("the NAME's; 24: of several that hold the first told counts");
        allOpen().fails("mode 12", 22, 1, NAME, 12, 3);
        allOpen().fails("n 0", 36, 1, NAME, 4, 0);
        allOpen().fails("a NAME outside", 14, 1, 16384, 4, 3);
        allOpen().name(NAME, "a\0").fails("a 0 in it", 22, 1, NAME, 4, 2);
        Scene nine = allOpen();
        nine.b.call(2, 10);
        check.same("nine are OPEN", nine.b.open("b", 0), 10);
    }

    private static void openWithoutFile() {
        check.about("modes 0 to 3: 2, if there is no such FILE");
        for (int mode = 0; mode < 4; mode++) {
            scene().name(NAME, "new").fails("mode " + mode, 2, 1, NAME, mode, 3);
            scene().name(NAME, "aa").fails("a longer NAME, mode " + mode, 2, 1, NAME, mode, 2);
            scene().name(NAME, "A").fails("another letter, mode " + mode, 2, 1, NAME, mode, 1);
        }
        check.about("4 to 7: a new FILE; 8 to 11: a new FILE");
        for (int mode = 4; mode < 12; mode++) {
            Bench b = scene().b;
            check.same("mode " + mode, b.open("new", mode), Scene.SHUT);
            check.same("FILES", b.names(), "a b :tt new");
            check.same("its bytes", b.x.file(3, 0), 0);
            check.same("its HANDLES", b.x.file(3, 2), 1);
            check.same("its number", b.x.handle(Scene.SHUT, 2), 3);
        }
    }

    private static Scene twelveFiles() {
        Scene s = scene();
        for (int i = 3; i < 12; i++) {
            s.b.lay("f" + i, "x");
        }
        return s;
    }

    private static void openAsThirteenth() {
        check.about("a new FILE (28, if there are 12)");
        for (int mode = 4; mode < 12; mode++) {
            twelveFiles().name(NAME, "new").fails("mode " + mode, 28, 1, NAME, mode, 3);
        }
        twelveFiles().name(NAME, "new").fails("mode 3", 2, 1, NAME, 3, 3);
        check.about("or one that is there");
        Bench b = twelveFiles().b;
        check.same("the last of 12", b.open("f11", 4), 7);
        check.same("the first of 12", b.open("a", 8), 8);
        check.same("the CONSOLE beside 12", b.open(":tt", 4), 9);
        check.same("FILES", b.x.files(), 12);
        b.remove("f10");
        check.same("a twelfth one", b.open("new", 4), 10);
        check.same("its number", b.x.handle(10, 2), 11);
    }

    private static void openConsole() {
        check.about("The NAME :tt is the CONSOLE: with modes 0 to 3 it may READ, 4 to 11 it may WRITE: to OUT, from 8 on to ERR");
        for (int mode = 0; mode < 12; mode++) {
            Scene s = scene().name(NAME, ":tt").fields(NAME, mode, 3);
            s.answersAt("mode " + mode, 7, 1, BLOCK, "handle 7 0", "handle 7 1", "handle 7 2", "handle 7 3");
            check.same("kind of mode " + mode, s.b.x.handle(7, 0), mode < 4 ? 2 : mode < 8 ? 3 : 4);
            check.same("rights of mode " + mode, s.b.x.handle(7, 3), mode < 4 ? 1 : 2);
            check.same("PLACE of mode " + mode, s.b.x.handle(7, 1), 0);
            check.same("FILE of mode " + mode, s.b.x.handle(7, 2), -1);
        }
        String[] near = {":t", ":ttt", "tt", ":Tt", ":tT", ";tt", " :tt"};
        for (String name : near) {
            Bench b = scene().b;
            check.same("OPEN of " + name, b.open(name, 4), 7);
            check.same("kind of " + name, b.x.handle(7, 0), 1);
            check.same("FILE " + name, b.name(3), name);
        }
    }

    private static void openPlaceAndLeast() {
        check.about("PLACE is 0. Answered: the least HANDLE that was not OPEN, which is");
        Bench b = allOpen().b;
        b.call(10, 9, 4);
        int[] closed = {9, 1, 4};
        for (int h : closed) {
            b.call(2, h);
        }
        int[] due = {1, 4, 9};
        for (int h : due) {
            check.same("OPEN", b.open("a", 0), h);
            check.same("PLACE", b.x.handle(h, 1), 0);
        }
        check.same("no more", b.open("a", 0), -1);
    }

    private static void close() {
        check.about("CLOSE: FIELD 0 a HANDLE: it is OPEN no more; 0");
        int[] files = {0, -1, -1, -1, 1, 0};
        for (int h = 1; h <= 6; h++) {
            int k = files[h - 1];
            Scene s = scene().fields(h);
            s.answersAt("CLOSE " + h, 0, 2, BLOCK, "handle " + h + " 0", "handle " + h + " 1", "handle " + h + " 2",
                    "handle " + h + " 3", "file " + k + " 2");
            check.same("it is not OPEN", s.b.x.handle(h, 0), 0);
            check.same("HANDLES of its FILE", k < 0 ? 0 : s.b.x.file(k, 2), k == 0 ? 1 : 0);
            s.fails("CLOSE again", 9, 2, h);
        }
    }

    private static void writeCharacter() {
        check.about("WRITEC: 14, if A is not in the MEMORY; its byte comes to OUT; 0");
        int[] outside = {16384, 16385, MOST, LEAST, -1};
        for (int a : outside) {
            scene().failsAt("WRITEC at " + a, 14, -1, 3, a);
        }
        int[] inside = {0, 1, 2, 3, 16382, 16383};
        for (int a : inside) {
            Scene s = scene().name(a, "\377");
            s.answersAt("WRITEC at " + a, 0, 3, a, "printed 0", "print 0 3");
            check.same("printed", s.b.x.printed(0), 4);
            check.same("print", s.b.x.print(0, 3), 255);
        }
        scene().answersAt("WRITEC of a 0", 0, 3, 5000, "printed 0", "print 0 3");
    }

    private static void writeText() {
        check.about("WRITE0: 14, if there is no 0 from A on in the MEMORY (or A is not in it)");
        int[] outside = {16384, 16385, MOST, LEAST, -1};
        for (int a : outside) {
            scene().failsAt("WRITE0 at " + a, 14, -1, 4, a);
        }
        scene().name(16383, "x").failsAt("no 0 in the last byte", 14, -1, 4, 16383);
        scene().name(16000, Bench.times('x', 384)).failsAt("no 0 up to the end", 14, -1, 4, 16000);
        scene().name(16000, "\0" + Bench.times('x', 383)).failsAt("a 0 ahead of A alone", 14, -1, 4, 16001);
        check.about("the bytes from A on up to a 0, without it, come to OUT; 0");
        scene().answersAt("the last byte is 0", 0, 4, 16383);
        scene().answersAt("no bytes", 0, 4, 6000);
        Scene s = scene().name(16380, "xy\377\0");
        s.answersAt("the 0 is the last byte", 0, 4, 16380, "printed 0", "print 0 3", "print 0 4", "print 0 5");
        check.same("OUT", s.b.output(0), "outxy\377");
        Scene first = scene().name(0, "z\0y");
        first.answersAt("up to the first 0", 0, 4, 0, "printed 0", "print 0 3");
        check.same("OUT", first.b.output(0), "outz");
        Bench all = scene().b;
        for (int place = 6000; place < 8000; place += 1000) {
            all.bytes(place, Bench.times('w', 1000));
        }
        check.same("2,000 bytes", all.callAt(4, 6000), 0);
        check.same("printed", all.x.printed(0), 2003);
    }

    private static void writeRights() {
        check.about("WRITE FAILS with what is told, register 10 becoming n: 9 (HANDLE, or it may not WRITE)");
        int[] counts = {0, 1, 5, 16384, MOST, LEAST, -1};
        for (int n : counts) {
            scene().failsWithN("no HANDLE, n " + n, 9, 5, Scene.SHUT, 0, n);
            scene().failsWithN("a FILE to READ, n " + n, 9, 5, Scene.READ, 0, n);
            scene().failsWithN("IN, n " + n, 9, 5, Scene.IN, 0, n);
        }
        scene().failsWithN("9 ahead of 14", 9, 5, Scene.READ, 16384, 1);
        scene().failsWithN("9 ahead of 14, no HANDLE", 9, 5, 0, -1, 1);
    }

    private static void writeArea() {
        check.about("14, if the AREA is not in the MEMORY");
        int[] writers = {Scene.BOTH, Scene.OUT, Scene.ERR, Scene.ADD};
        for (int h : writers) {
            scene().failsWithN("one byte beyond", 14, 5, h, 16380, 5);
            scene().failsWithN("no bytes beyond the end", 14, 5, h, 16385, 0);
            scene().failsWithN("round 32 bits", 14, 5, h, 2000, -2000);
            scene().failsWithN("from the top on", 14, 5, h, -4, 8);
        }
    }

    private static void writeConsole() {
        check.about("Of the CONSOLE: the n bytes come to OUT, or ERR; 0");
        Scene out = scene().name(2000, "\0\377").fields(Scene.OUT, 2000, 2);
        out.answersAt("OUT", 0, 5, BLOCK, "printed 0", "print 0 3", "print 0 4");
        check.same("OUT", out.b.output(0), "out\0\377");
        Scene err = scene().name(2000, "\0\377").fields(Scene.ERR, 2000, 2);
        err.answersAt("ERR", 0, 5, BLOCK, "printed 1", "print 1 5", "print 1 6");
        check.same("ERR", err.b.output(1), "error\0\377");
        scene().fields(Scene.OUT, 2000, 0).answersAt("nothing to OUT", 0, 5, BLOCK);
        scene().fields(Scene.ERR, 16384, 0).answersAt("nothing to ERR", 0, 5, BLOCK);
    }

    private static void writeFile() {
        check.about("bytes come to the FILE from PLACE on, one by one, in place of what is there or behind it");
        Scene s = scene().name(2000, "XYZ").fields(Scene.BOTH, 2000, 3);
        s.answersAt("up to its end", 0, 5, BLOCK, "byte 0 2", "byte 0 3", "byte 0 4", "handle 1 1");
        check.same("its bytes", s.b.content(0), "alXYZ");
        check.same("PLACE is behind the last one", s.b.x.handle(1, 1), 5);
        s.fields(Scene.BOTH, 2000, 2).answersAt("behind its end", 0, 5, BLOCK, "byte 0 5", "byte 0 6", "handle 1 1",
                "file 0 0");
        check.same("its bytes", s.b.content(0), "alXYZXY");
        check.same("PLACE is behind the last one", s.b.x.handle(1, 1), 7);
        Scene over = scene().name(2000, "123456").fields(Scene.BOTH, 2000, 6);
        over.b.call(10, Scene.BOTH, 4);
        over.fields(Scene.BOTH, 2000, 6);
        over.answersAt("over its end", 0, 5, BLOCK, "byte 0 4", "byte 0 5", "byte 0 6", "byte 0 7", "byte 0 8", "byte 0 9",
                "handle 1 1", "file 0 0");
        check.same("its bytes", over.b.content(0), "alph123456");
    }

    /** A FILE of so many bytes with HANDLE 1 at its end, and HANDLE 2 to ADD. */
    private static Bench fileOf(int bytes) {
        Bench b = new Bench();
        b.lay("f", Bench.times('f', bytes));
        b.open("f", 2);
        b.open("f", 8);
        b.call(10, 1, bytes);
        b.callAt(0, 0);
        b.bytes(4096, "0123456789");
        return b;
    }

    private static void writeLimit() {
        check.about("as long as it has 2,000 at most. Answered: how many did not come; if that is not 0 ERRNO is 28");
        int[][] rows = {{1990, 10, 10}, {1991, 10, 9}, {1999, 1, 1}, {1999, 2, 1}, {2000, 1, 0}, {2000, 10, 0}};
        for (int[] row : rows) {
            for (int h = 1; h <= 2; h++) {
                String what = row[1] + " to " + row[0] + " by HANDLE " + h;
                Bench b = fileOf(row[0]);
                check.same(what, b.call(5, h, 4096, row[1]), row[1] - row[2]);
                check.same(what + ": ERRNO", b.errno(), row[1] > row[2] ? 28 : 38);
                check.same(what + ": bytes", b.content(0),
                        Bench.times('f', row[0]) + "0123456789".substring(0, row[2]));
                check.same(what + ": PLACE", b.x.handle(h, 1), row[0] + row[2]);
            }
        }
        Bench whole = fileOf(2000);
        whole.call(10, 1, 0);
        check.same("all of the MEMORY", whole.call(5, 1, 0, 16384), 14384);
        check.same("ERRNO", whole.errno(), 28);
        check.same("bytes", whole.x.file(0, 0), 2000);
        check.same("PLACE", whole.x.handle(1, 1), 2000);
        Bench inside = fileOf(2000);
        inside.call(10, 1, 1990);
        check.same("in place of the last ten", inside.call(5, 1, 4096, 10), 0);
        check.same("ERRNO stays", inside.errno(), 38);
        check.same("bytes", inside.content(0), Bench.times('f', 1990) + "0123456789");
    }

    private static void writeBehindEnd() {
        check.about("if at least one comes, 0s between its end and PLACE, if that is beyond");
        int[] places = {1, 2, 100, 1999, 2000};
        for (int place : places) {
            Bench b = fileOf(place);
            b.open("f", 4);
            check.same("PLACE is beyond", b.x.handle(1, 1), place);
            check.same("ADD of nothing", b.call(5, 2, 4096, 0), 0);
            check.same("nothing beyond its end", b.call(5, 1, 4096, 0), 0);
            check.same("no 0s", b.x.file(0, 0), 0);
            check.same("PLACE stays", b.x.handle(1, 1), place);
            int came = place < 1999 ? 2 : 2000 - place;
            check.same("two beyond its end", b.call(5, 1, 4096, 2), 2 - came);
            check.same("ERRNO", b.errno(), came < 2 ? 28 : 38);
            check.same("0s between", b.content(0),
                    came == 0 ? "" : Bench.times('\0', place) + "01".substring(0, came));
            check.same("PLACE behind", b.x.handle(1, 1), place + came);
        }
    }

    private static void writeNothing() {
        check.about("of n 0 nothing happens but ADD's");
        scene().fields(Scene.BOTH, 2000, 0).answersAt("WRITE of nothing", 0, 5, BLOCK);
        scene().fields(Scene.BOTH, 16384, 0).answersAt("WRITE of nothing at the end", 0, 5, BLOCK);
        Scene s = scene().fields(Scene.ADD, 2000, 0);
        check.same("PLACE ahead of it", s.b.x.handle(Scene.ADD, 1), 0);
        s.answersAt("ADD of nothing", 0, 5, BLOCK, "handle 5 1");
        check.same("PLACE behind it", s.b.x.handle(Scene.ADD, 1), 4);
        Bench full = fileOf(2000);
        check.same("ADD of nothing to 2,000", full.call(5, 2, 4096, 0), 0);
        check.same("ERRNO stays", full.errno(), 38);
        check.same("PLACE", full.x.handle(2, 1), 2000);
    }

    private static void writeAdd() {
        check.about("with ADD its PLACE is the FILE's end first");
        Scene s = scene().name(2000, "XY").fields(Scene.ADD, 2000, 2);
        s.answersAt("ADD", 0, 5, BLOCK, "handle 5 1", "file 1 0", "byte 1 4", "byte 1 5");
        check.same("its bytes", s.b.content(1), "betaXY");
        check.same("PLACE", s.b.x.handle(Scene.ADD, 1), 6);
        s.b.call(10, Scene.ADD, 0);
        s.fields(Scene.ADD, 2000, 1).answersAt("ADD behind SEEK", 0, 5, BLOCK, "handle 5 1", "file 1 0", "byte 1 6");
        check.same("its bytes", s.b.content(1), "betaXYX");
        Bench b = fileOf(5);
        b.call(5, 2, 4096, 1);
        b.open("f", 4);
        check.same("ADD to one that lost its bytes", b.call(5, 2, 4096, 2), 0);
        check.same("at its end", b.content(0), "01");
        check.same("PLACE", b.x.handle(2, 1), 2);
    }

    private static void readRights() {
        check.about("READ FAILS likewise: 9 (HANDLE, or it may not READ)");
        int[] counts = {0, 1, 5, 16384, MOST, LEAST, -1};
        for (int n : counts) {
            scene().failsWithN("no HANDLE, n " + n, 9, 6, Scene.SHUT, 0, n);
            scene().failsWithN("a FILE to ADD to, n " + n, 9, 6, Scene.ADD, 0, n);
            scene().failsWithN("OUT, n " + n, 9, 6, Scene.OUT, 0, n);
            scene().failsWithN("ERR, n " + n, 9, 6, Scene.ERR, 0, n);
        }
        scene().failsWithN("9 ahead of 14", 9, 6, Scene.OUT, 16384, 1);
    }

    private static void readArea() {
        check.about("14: the AREA of n bytes, though fewer would come");
        int[] readers = {Scene.BOTH, Scene.IN, Scene.READ};
        for (int h : readers) {
            scene().failsWithN("one byte beyond", 14, 6, h, 16374, 11);
            scene().failsWithN("no bytes beyond the end", 14, 6, h, 16385, 0);
            scene().failsWithN("round 32 bits", 14, 6, h, 2000, -2000);
            scene().failsWithN("from the top on", 14, 6, h, -4, 8);
        }
    }

    private static void readConsole() {
        check.about("From the CONSOLE as many bytes as wait, n at most, come to the place on. Answered: n less these");
        int[][] rows = {{0, 0}, {1, 1}, {4, 4}, {5, 5}, {6, 5}, {400, 5}, {10000, 5}};
        for (int[] row : rows) {
            Bench b = scene().b;
            b.bytes(6000, "********");
            check.same("READ of " + row[0], b.call(6, Scene.IN, 6000, row[0]), row[0] - row[1]);
            check.same("ERRNO", b.errno(), 38);
            check.same("bytes", b.memory(6000, 8), ("input".substring(0, row[1]) + "********").substring(0, 8));
            check.same("those that wait", b.x.look(6), 5 - row[1]);
            check.same("the next one", b.callAt(7, 0), row[1] == 5 ? -1 : "input".charAt(row[1]));
        }
        Scene empty = scene();
        empty.b.call(6, Scene.IN, 6000, 5);
        empty.fields(Scene.IN, 6000, 3).answersAt("none waits", 3, 6, BLOCK);
        Scene end = scene().fields(Scene.IN, 16381, 3);
        end.answersAt("at the end of the MEMORY", 0, 6, BLOCK, "look 6", "peek 16381", "peek 16382", "peek 16383");
        check.same("bytes", end.b.memory(16381, 3), "inp");
    }

    private static void readFile() {
        check.about("from the FILE as many as lie from PLACE on, n at most; PLACE is behind them. Answered: n less these");
        int[][] rows = {{0, 0}, {1, 1}, {2, 2}, {3, 3}, {4, 3}, {10000, 3}};
        for (int[] row : rows) {
            Bench b = scene().b;
            b.bytes(6000, "********");
            check.same("READ of " + row[0], b.call(6, Scene.BOTH, 6000, row[0]), row[0] - row[1]);
            check.same("ERRNO", b.errno(), 38);
            check.same("bytes", b.memory(6000, 8), ("pha".substring(0, row[1]) + "********").substring(0, 8));
            check.same("PLACE", b.x.handle(Scene.BOTH, 1), 2 + row[1]);
            check.same("PLACE of another HANDLE", b.x.handle(Scene.READ, 1), 0);
        }
        Scene s = scene();
        s.b.call(10, Scene.BOTH, 5);
        s.fields(Scene.BOTH, 6000, 9).answersAt("at its end", 9, 6, BLOCK);
        Bench beyond = fileOf(2000);
        beyond.open("f", 4);
        check.same("beyond its end", beyond.call(6, 1, 6000, 9), 9);
        check.same("PLACE stays", beyond.x.handle(1, 1), 2000);
        Bench all = fileOf(2000);
        all.call(10, 1, 0);
        check.same("2,000 bytes up to the end of the MEMORY", all.call(6, 1, 14384, 2000), 0);
        check.same("the last one", all.x.peek(16383), 'f');
        check.same("PLACE", all.x.handle(1, 1), 2000);
    }

    private static void readCharacter() {
        check.about("READC: the byte of IN that waits longest, which is gone; - 1, if none waits (ERRNO stays)");
        Scene s = scene();
        s.answersAt("READC", 'i', 7, -1, "look 6");
        check.same("it is gone", s.b.x.look(6), 4);
        s.answersAt("READC again", 'n', 7, 3, "look 6");
        Scene empty = scene();
        empty.b.call(6, Scene.IN, 6000, 5);
        empty.answersAt("none waits", -1, 7, 0);
        empty.b.tape("\377\0").x.type();
        empty.answersAt("a 255", 255, 7, 0, "look 6");
        empty.answersAt("a 0", 0, 7, 0, "look 6");
        empty.answersAt("none again", -1, 7, 0);
        Bench full = new Bench();
        full.tape(Bench.times('x', 399) + "y").x.type();
        full.call(6, full.open(":tt", 0), 6000, 399);
        check.same("the last of 400", full.callAt(7, 0), 'y');
        check.same("none waits", full.callAt(7, 0), -1);
    }

    private static void isError() {
        check.about("ISERROR: FIELD 0: 1, if its highest bit is 1, else 0");
        int[][] rows = {{0, 0}, {1, 0}, {MOST, 0}, {0x40000000, 0}, {LEAST, 1}, {-1, 1}, {LEAST + 1, 1}};
        for (int[] row : rows) {
            scene().fields(row[0]).answersAt("ISERROR of " + row[0], row[1], 8, BLOCK);
        }
    }

    private static void isConsole() {
        check.about("ISTTY: FIELD 0 a HANDLE: 1 of the CONSOLE, else 0");
        int[] due = {0, 1, 1, 1, 0, 0};
        for (int h = 1; h <= 6; h++) {
            scene().fields(h).answersAt("ISTTY of " + h, due[h - 1], 9, BLOCK);
        }
    }

    private static void seek() {
        check.about("SEEK: 22, if it is the CONSOLE's, or the number above how many bytes its FILE has");
        for (int h = Scene.IN; h <= Scene.ERR; h++) {
            scene().fails("SEEK 0 of the CONSOLE " + h, 22, 10, h, 0);
            scene().fails("SEEK 1 of the CONSOLE " + h, 22, 10, h, 1);
        }
        int[] above = {6, 7, 2000, 2001, MOST, LEAST, -1};
        for (int number : above) {
            scene().fails("SEEK " + number, 22, 10, Scene.BOTH, number);
        }
        check.about("PLACE is the number; 0");
        int[] fine = {0, 1, 4, 5};
        for (int number : fine) {
            Scene s = scene().fields(Scene.BOTH, number);
            s.answersAt("SEEK " + number, 0, 10, BLOCK, "handle 1 1");
            check.same("PLACE", s.b.x.handle(1, 1), number);
        }
        check.same("SEEK 2,000 of 2,000", fileOf(2000).call(10, 1, 2000), 0);
        Bench empty = fileOf(0);
        check.same("SEEK 0 of none", empty.call(10, 1, 0), 0);
        check.same("SEEK 1 of none", empty.call(10, 1, 1), -1);
        scene().fails("9 ahead of 22", 9, 10, Scene.SHUT, -1);
    }

    private static void length() {
        check.about("FLEN: FIELD 0 a HANDLE: how many bytes its FILE has, 0 of the CONSOLE");
        int[] due = {5, 0, 0, 0, 4, 5};
        for (int h = 1; h <= 6; h++) {
            scene().fields(h).answersAt("FLEN of " + h, due[h - 1], 12, BLOCK);
        }
        check.same("FLEN of none", fileOf(0).call(12, 1), 0);
        check.same("FLEN of 2,000", fileOf(2000).call(12, 1), 2000);
    }

    private static void temporaryName() {
        check.about("TMPNAM: 22, if the number is above 255 or n below 7");
        int[] numbers = {256, 257, 1000, MOST, LEAST, -1};
        for (int number : numbers) {
            scene().fails("number " + number, 22, 13, 2000, number, 7);
        }
        for (int n = 0; n < 7; n++) {
            scene().fails("n " + n, 22, 13, 2000, 5, n);
        }
        scene().fails("22 ahead of 14", 22, 13, 16384, 256, 7);
        scene().fails("22 ahead of 14, by n", 22, 13, -1, 5, 6);
        check.about("14, if the AREA of seven bytes is not in the MEMORY");
        int[] places = {16378, 16383, 16384, MOST, LEAST, -7, -1};
        for (int place : places) {
            scene().fails("place " + place, 14, 13, place, 5, 7);
        }
        check.about("tmp, the number in three digits, and a 0 come there; 0");
        int[][] rows = {{0, 7}, {5, 8}, {9, 7}, {10, 7}, {99, 7}, {100, MOST}, {199, LEAST}, {200, -1}, {255, 7}};
        for (int[] row : rows) {
            int[] fine = {0, 2001, 16377};
            for (int place : fine) {
                Scene s = scene();
                s.b.bytes(place, "*******");
                s.fields(place, row[0], row[1]).answersAt("number " + row[0], 0, 13, BLOCK, "peek " + place,
                        "peek " + (place + 1), "peek " + (place + 2), "peek " + (place + 3), "peek " + (place + 4),
                        "peek " + (place + 5), "peek " + (place + 6));
                check.same("its bytes", s.b.memory(place, 7), String.format("tmp%03d\0", row[0]));
            }
        }
    }

    private static void remove() {
        check.about("REMOVE: the NAME's; 2, if there is no such FILE");
        scene().name(NAME, "c").fails("none such", 2, 14, NAME, 1);
        scene().name(NAME, "aa").fails("a longer NAME", 2, 14, NAME, 2);
        scene().name(NAME, ":t").fails("a shorter NAME", 2, 14, NAME, 2);
        check.about("16, if a HANDLE that is OPEN has it");
        scene().name(NAME, "a").fails("two HANDLES have it", 16, 14, NAME, 1);
        scene().name(NAME, "b").fails("one HANDLE has it", 16, 14, NAME, 1);
        check.about("it is gone; 0. (:tt is a NAME like others in 14 and 15.)");
        Bench b = scene().b;
        check.same("REMOVE :tt, though the CONSOLE is OPEN", b.remove(":tt"), 0);
        check.same("FILES", b.names(), "a b");
        check.same("ERRNO", b.errno(), 38);
        check.same("the CONSOLE is OPEN still", b.x.handle(Scene.IN, 0), 2);
        check.same("REMOVE :tt again", b.remove(":tt"), -1);
        check.same("ERRNO", b.errno(), 2);
        b.call(2, Scene.BOTH);
        check.same("one of two HANDLES CLOSED", b.remove("a"), -1);
        check.same("ERRNO", b.errno(), 16);
        b.call(2, Scene.READ);
        check.same("both CLOSED", b.remove("a"), 0);
        check.same("FILES", b.names(), "b");
        check.same("the number of the one behind", b.x.handle(Scene.ADD, 2), 0);
        check.same("its bytes", b.content(0), "beta");
    }

    private static void rename() {
        check.about("RENAME: 2, 16 of the first one's FILE");
        scene().name(NAME, "c").name(OTHER, "nx").fails("none such", 2, 15, NAME, 1, OTHER, 2);
        scene().name(NAME, "c").name(OTHER, "a").fails("2 ahead of 17", 2, 15, NAME, 1, OTHER, 1);
        scene().name(NAME, "c").name(OTHER, "c").fails("none such, twice", 2, 15, NAME, 1, NAME, 1);
        scene().name(NAME, "a").name(OTHER, "nx").fails("OPEN", 16, 15, NAME, 1, OTHER, 2);
        scene().name(NAME, "a").name(OTHER, "b").fails("16 ahead of 17", 16, 15, NAME, 1, OTHER, 1);
        scene().name(NAME, "a").fails("OPEN, to its own NAME", 16, 15, NAME, 1, NAME, 1);
        check.about("17, if there is another FILE of the second NAME");
        scene().name(NAME, ":tt").name(OTHER, "a").fails("one that is OPEN", 17, 15, NAME, 3, OTHER, 1);
        Scene two = scene();
        two.b.lay("c", "");
        two.name(NAME, "c").name(OTHER, ":tt").fails("one that is not OPEN", 17, 15, NAME, 1, OTHER, 3);
        check.about("it has that NAME; 0");
        Scene s = scene().name(NAME, ":tt").name(OTHER, "abcd").fields(NAME, 3, OTHER, 4);
        s.answersAt("RENAME", 0, 15, BLOCK, "file 2 1", "name 2 0", "name 2 1", "name 2 2", "name 2 3");
        check.same("FILES", s.b.names(), "a b abcd");
        s.fields(OTHER, 4, OTHER, 4).answersAt("to its own NAME", 0, 15, BLOCK);
        check.same("FILES", s.b.names(), "a b abcd");
        s.fields(OTHER, 4, OTHER, 1).name(OTHER, "abcd");
        s.fails("to the NAME of another one", 17, 15, OTHER, 4, OTHER, 1);
        s.fields(OTHER, 4, OTHER, 2).answersAt("to a part of its NAME", 0, 15, BLOCK, "file 2 1", "name 2 2", "name 2 3");
        check.same("FILES", s.b.names(), "a b ab");
        check.same("the old NAME is free", s.b.open("abcd", 0), -1);
        check.same("ERRNO", s.b.errno(), 2);
        Bench all = twelveFiles().b;
        check.same("RENAME of the twelfth", all.rename("f11", "zz"), 0);
        check.same("its NAME", all.name(11), "zz");
    }

    private static void renameOrder() {
        check.about("the first one's; the second one's: of several that hold the first told counts");
        scene().name(OTHER, "\0").fails("36 of the first, 22 of the second", 36, 15, NAME, 0, OTHER, 1);
        scene().fails("14 of the first, 36 of the second", 14, 15, 16384, 1, OTHER, 0);
        scene().name(NAME, "\0").fails("22 of the first, 14 of the second", 22, 15, NAME, 1, 16384, 1);
        scene().name(NAME, "c").fails("36 of the second ahead of 2", 36, 15, NAME, 1, OTHER, 25);
        scene().name(NAME, "c").fails("14 of the second ahead of 2", 14, 15, NAME, 1, -1, 1);
        scene().name(NAME, "a").name(OTHER, "\0").fails("22 of the second ahead of 16", 22, 15, NAME, 1, OTHER, 1);
    }

    private static void clocks() {
        check.about("CLOCK: STEPS by 100 (of all STEPS done)");
        int[][] rows = {{2, 0}, {99, 0}, {100, 1}, {101, 1}, {199, 1}, {200, 2}, {4999, 49}, {5000, 50}};
        for (int[] row : rows) {
            Bench b = new Bench();
            b.words(0, Rv.jal(0, 0));
            b.x.run(row[0] - 2);
            check.same("CLOCK in STEP " + row[0], b.callAt(16, 3), row[1]);
            check.same("STEPS", b.x.look(3), row[0]);
        }
        scene().answersAt("CLOCK", 0, 16, -1);
        check.about("TIME: the CLOCK");
        int[] times = {0, 1, -1, LEAST, MOST};
        for (int time : times) {
            Scene s = scene();
            s.b.x.clock(time);
            s.answersAt("TIME", time, 17, -1);
        }
        check.about("49: 1000");
        scene().answersAt("49", 1000, 49, -1);
    }

    private static void system() {
        check.about("SYSTEM: FIELDS 0, 1: FAILS with 38");
        scene().fails("SYSTEM", 38, 18, 0, 0);
        scene().name(NAME, "ls").fails("SYSTEM with a text", 38, 18, NAME, 2);
        scene().fails("SYSTEM outside", 38, 18, -1, -1);
    }

    private static void errno() {
        check.about("ERRNO: it");
        Scene s = scene();
        s.answersAt("ERRNO", 38, 19, -1);
        s.answersAt("ERRNO again", 38, 19, 3);
        check.same("ERRNO at first", new Bench().callAt(19, 0), 0);
        s.b.callAt(3, -1);
        s.answersAt("the latest one", 14, 19, 0);
    }

    private static void command() {
        check.about("COMMAND: 22, if n is below its size and 1");
        for (int n = 0; n < 10; n += 3) {
            scene().fails("n " + n, 22, 21, 2000, n);
        }
        scene().fails("22 ahead of 14", 22, 21, 16384, 9);
        check.about("14, if the AREA of that many is not in the MEMORY");
        int[] places = {16375, 16383, 16384, MOST, LEAST, -10, -1};
        for (int place : places) {
            scene().fails("place " + place, 14, 21, place, 10);
            scene().fails("place " + place + ", more room", 14, 21, place, -1);
        }
        check.about("its bytes and a 0 come there, then its size to FIELD 1; 0");
        int[] room = {10, 11, 80, 16384, MOST, LEAST, -1};
        for (int n : room) {
            Bench b = scene().b;
            b.bytes(16372, "************");
            check.same("n " + n, b.call(21, 16374, n), 0);
            check.same("its bytes", b.memory(16372, 12), "**a command\0");
            check.same("its size", b.word(BLOCK + 4), 9);
            check.same("FIELD 0 stays", b.word(BLOCK), 16374);
            check.same("ERRNO", b.errno(), 38);
        }
        Bench none = new Bench();
        none.bytes(16383, "*");
        check.same("none, n 0", none.call(21, 16383, 0), -1);
        check.same("ERRNO", none.errno(), 22);
        check.same("none, n 1", none.call(21, 16383, 1), 0);
        check.same("a 0", none.x.peek(16383), 0);
        check.same("size 0", none.word(BLOCK + 4), 0);
        Bench most = new Bench();
        most.tape(Bench.times('c', 80)).x.command();
        check.same("80, n 80", most.call(21, 6000, 80), -1);
        check.same("80, n 81", most.call(21, 16303, 81), 0);
        check.same("its bytes", most.memory(16303, 81), Bench.times('c', 80) + "\0");
        check.same("size 80", most.word(BLOCK + 4), 80);
    }

    private static void commandOverFields() {
        check.about("its bytes and a 0 come there, then its size to FIELD 1");
        Bench b = scene().b;
        check.same("upon FIELD 0", b.call(21, BLOCK, 10), 0);
        check.same("the size comes last", b.memory(BLOCK, 10), "a co\11\0\0\0d\0");
        check.same("upon FIELD 1", b.call(21, BLOCK + 4, 10), 0);
        check.same("the size comes last there", b.memory(BLOCK + 4, 10), "\11\0\0\0mmand\0");
    }

    private static void heap() {
        check.about("HEAP: 14, if it is no multiple of 4 or the AREA of 16 bytes is not in the MEMORY");
        int[] places = {2001, 2002, 2003, 16369, 16372, 16380, 16384, MOST - 3, LEAST, -16, -4};
        for (int place : places) {
            scene().fails("place " + place, 14, 22, place);
        }
        check.about("the WORDS 8192, 12288, 16384, 12288 come there; 0");
        int[] fine = {0, 2000, 16368};
        for (int place : fine) {
            Bench b = scene().b;
            b.words(place, -1, -1, -1, -1);
            check.same("place " + place, b.call(22, place), 0);
            int[] due = {8192, 12288, 16384, 12288};
            for (int i = 0; i < 4; i++) {
                check.same("WORD " + i, b.word(place + 4 * i), due[i]);
            }
            check.same("ERRNO", b.errno(), 38);
        }
    }

    /** An EXIT: register 10 and PC stay, and so does all else. */
    private static void exits(String what, Scene s, int operation, int a, int code) {
        Bench b = s.b;
        b.x.set(10, operation);
        b.x.set(11, a);
        b.x.set(32, Bench.CODE);
        b.x.run(1);
        Whole before = new Whole(b.x);
        int steps = b.x.look(3);
        int calls = b.x.look(4);
        check.same(what + ": run", b.x.run(9), 1);
        check.same(what + ": state", b.x.state(), 1);
        check.same(what + ": CODE", b.x.look(1), code);
        check.same(what + ": STEPS", b.x.look(3), steps + 1);
        check.same(what + ": CALLS", b.x.look(4), calls + 1);
        check.same(what + ": latest", b.x.look(5), operation);
        check.same(what + ": what else changed",
                new Whole(b.x).changedSince(before, "state", "look 1", "look 3", "look 4", "look 5"), "");
        check.same(what + ": no STEP more", b.x.run(9), 0);
    }

    private static void exit() {
        check.about("EXIT: its CODE is 0 if A is 131110, else 1 (register 10 and PC stay)");
        int[] others = {131109, 131111, 0, 1, 2, 131107, -131110, LEAST + 131110, -1};
        exits("131110", scene(), 24, 131110, 0);
        for (int a : others) {
            exits("A " + a, scene(), 24, a, 1);
        }
    }

    private static void exitOfTwo() {
        check.about("EXIT of two FIELDS: likewise, the CODE is FIELD 1 if FIELD 0 is 131110, else 1");
        int[] codes = {0, 1, 2, 255, 256, MOST, LEAST, -1};
        for (int code : codes) {
            exits("CODE " + code, scene().fields(131110, code), 32, BLOCK, code);
            exits("not 131110, " + code, scene().fields(131109, code), 32, BLOCK, 1);
            exits("FIELD 0 0, " + code, scene().fields(0, code), 32, BLOCK, 1);
        }
        Bench end = scene().b;
        end.words(16376, 131110, 5);
        end.callAt(32, 16376);
        check.same("at the end of the MEMORY", end.x.look(1), 5);
        Bench b = scene().b;
        check.same("without FIELDS it FAILS", b.callAt(32, 16380), -1);
        check.same("and RUNS", b.x.state(), 0);
        check.same("with no CODE", b.x.look(1), 0);
    }

    private static void elapsed() {
        check.about("ELAPSED: 14, if A is no multiple of 4, or the AREA of 8 bytes at A is not in the MEMORY");
        int[] places = {2001, 2002, 2003, 16377, 16380, 16384, MOST - 3, LEAST, -8, -4};
        for (int a : places) {
            scene().failsAt("A " + a, 14, -1, 48, a);
        }
        check.about("how many STEPS were done, as 64 bits, the lowest byte first, come there; 0");
        int[] fine = {0, 2000, 2004, 16376};
        for (int a : fine) {
            Bench b = new Bench();
            b.words(a, -1, -1);
            b.words(Bench.CODE + 12, Rv.jal(0, 0));
            b.x.set(32, Bench.CODE + 12);
            b.x.run(1000);
            check.same("A " + a, b.callAt(48, a), 0);
            check.same("low", b.word(a), 1002);
            check.same("high", b.word(a + 4), 0);
            check.same("the byte behind", b.x.peek(a + 8), a == 16376 ? -1 : 0);
        }
    }

    private static void others() {
        check.about("Others FAIL with 38");
        String known = " 1 2 3 4 5 6 7 8 9 10 12 13 14 15 16 17 18 19 21 22 24 32 48 49 ";
        for (int operation = 0; operation < 300; operation++) {
            if (!known.contains(" " + operation + " ")) {
                Bench b = new Bench();
                check.same("operation " + operation, b.callAt(operation, operation % 2 == 0 ? -1 : BLOCK), -1);
                check.same("operation " + operation + ": ERRNO", b.errno(), 38);
            }
        }
        int[] far = {-1, LEAST, MOST, LEAST + 1, 65537, 0x01000001, -2};
        for (int operation : far) {
            scene().failsAt("operation " + operation, 38, -1, operation, BLOCK);
        }
        scene().failsAt("operation 11 at a crooked place", 38, -1, 11, 3);
        scene().failsAt("operation 0 outside", 38, -1, 0, -1);
    }

    private static void steps() {
        check.about("STEPS done are those of the guest's life, this one too, also over set(), begin()");
        Bench b = new Bench();
        b.callAt(48, 2000);
        check.same("this one too", b.word(2000), 2);
        b.x.set(32, 0);
        b.x.set(5, 5);
        b.x.begin();
        check.same("over begin()", b.x.look(3), 2);
        check.about("a STEP with a TRAP, an EXIT is one");
        check.same("a TRAP", b.x.run(9), 1);
        check.same("counts", b.x.look(3), 3);
        check.same("no STEP", b.x.run(9), 0);
        check.same("does not", b.x.look(3), 3);
        b.x.begin();
        b.callAt(24, 0);
        check.same("an EXIT counts", b.x.look(3), 5);
        b.x.begin();
        b.callAt(48, 2000);
        check.same("all of them", b.word(2000), 7);
    }
}
