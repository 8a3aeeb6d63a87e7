import java.util.NoSuchElementException;

/** Promises 12 to 21: what the calls tell, and set. */
public final class ViewTest {
    private static final Check check = new Check("ViewTest");
    private static final int[] FAR = {Integer.MIN_VALUE, -1000, Integer.MAX_VALUE};

    private ViewTest() {
    }

    public static void main(String[] args) {
        look();
        registers();
        peek();
        files();
        fileBytes();
        handles();
        printed();
        printedGoesRound();
        check.finish();
    }

    private static void look() {
        Bench b = new Bench();
        b.x.clock(5);
        b.tape("four").x.command();
        b.tape("abc").x.type();
        b.callAt(2, 3);
        b.callAt(33, 3);
        check.same("TRAP", b.x.look(0), 0);
        check.same("CODE", b.x.look(1), 0);
        check.same("ERRNO", b.x.look(2), 38);
        check.same("STEPS", b.x.look(3), 4);
        check.same("CALLS", b.x.look(4), 2);
        check.same("latest", b.x.look(5), 33);
        check.same("IN", b.x.look(6), 3);
        check.same("CLOCK", b.x.look(7), 5);
        check.same("COMMAND", b.x.look(8), 4);
        check.fails("look(-1)", NoSuchElementException.class, () -> b.x.look(-1));
        check.fails("look(9)", NoSuchElementException.class, () -> b.x.look(9));
        for (int far : FAR) {
            check.fails("look far", NoSuchElementException.class, () -> b.x.look(far));
        }
        b.callAt(-1, 0);
        check.same("latest below 0", b.x.look(5), -1);
        b.words(Bench.CODE + 4, Rv.EBREAK, 0);
        b.callAt(49, 0);
        check.same("an EBREAK that is no CALL", b.x.look(4), 3);
        check.same("TRAP 5", b.x.look(0), 5);
        check.same("STOPPED", b.x.state(), 2);
        check.same("no CODE", b.x.look(1), 0);
    }

    private static void registers() {
        Bench b = new Bench();
        for (int r = 1; r <= 32; r++) {
            check.isTrue("set " + r, b.x.set(r, r * -7));
        }
        for (int r = 1; r <= 32; r++) {
            check.same("register " + r, b.x.register(r), r * -7);
        }
        check.isFalse("set 0", b.x.set(0, 5));
        check.same("register 0", b.x.register(0), 0);
        check.isFalse("set 33", b.x.set(33, 5));
        check.isFalse("set -1", b.x.set(-1, 5));
        check.fails("register 33", NoSuchElementException.class, () -> b.x.register(33));
        check.fails("register -1", NoSuchElementException.class, () -> b.x.register(-1));
        for (int far : FAR) {
            check.isFalse("set far", b.x.set(far, 5));
            check.fails("register far", NoSuchElementException.class, () -> b.x.register(far));
        }
        b.x.run(1);
        check.same("STOPPED", b.x.state(), 2);
        check.isTrue("set of one that is STOPPED", b.x.set(32, 0));
        check.same("STOPPED still", b.x.state(), 2);
        check.same("PC", b.x.register(32), 0);
    }

    private static void peek() {
        Bench b = new Bench();
        b.bytes(0, "\200");
        b.bytes(16383, "\377");
        check.same("peek(0)", b.x.peek(0), 128);
        check.same("peek(16383)", b.x.peek(16383), 255);
        check.same("peek(16384)", b.x.peek(16384), -1);
        check.same("peek(-1)", b.x.peek(-1), -1);
        for (int far : FAR) {
            check.same("peek far", b.x.peek(far), -1);
        }
    }

    private static void files() {
        Bench b = new Bench();
        check.same("files", b.x.files(), 0);
        check.fails("file(0, 0) of none", NoSuchElementException.class, () -> b.x.file(0, 0));
        b.lay("one", "12345");
        b.lay("three", "");
        check.same("files", b.x.files(), 2);
        b.open("one", 0);
        b.open("one", 2);
        check.same("bytes", b.x.file(0, 0), 5);
        check.same("bytes of the NAME", b.x.file(0, 1), 3);
        check.same("HANDLES", b.x.file(0, 2), 2);
        check.same("bytes of an empty one", b.x.file(1, 0), 0);
        check.same("its NAME", b.x.file(1, 1), 5);
        check.same("its HANDLES", b.x.file(1, 2), 0);
        b.call(2, 1);
        check.same("HANDLES behind CLOSE", b.x.file(0, 2), 1);
        check.fails("what 3", NoSuchElementException.class, () -> b.x.file(0, 3));
        check.fails("what -1", NoSuchElementException.class, () -> b.x.file(0, -1));
        check.fails("FILE 2", NoSuchElementException.class, () -> b.x.file(2, 0));
        check.fails("FILE -1", NoSuchElementException.class, () -> b.x.file(-1, 0));
        check.fails("FILE 12", NoSuchElementException.class, () -> b.x.file(12, 0));
        for (int far : FAR) {
            check.fails("FILE far", NoSuchElementException.class, () -> b.x.file(far, 0));
            check.fails("what far", NoSuchElementException.class, () -> b.x.file(0, far));
        }
    }

    private static void fileBytes() {
        Bench b = new Bench();
        b.lay("nm", "x\0\377");
        check.same("a byte", b.x.fileByte(0, 0, false), 'x');
        check.same("a 0", b.x.fileByte(0, 1, false), 0);
        check.same("a 255", b.x.fileByte(0, 2, false), 255);
        check.same("none behind", b.x.fileByte(0, 3, false), -1);
        check.same("none ahead", b.x.fileByte(0, -1, false), -1);
        check.same("of its NAME", b.x.fileByte(0, 1, true), 'm');
        check.same("none behind its NAME", b.x.fileByte(0, 2, true), -1);
        check.same("none ahead of its NAME", b.x.fileByte(0, -1, true), -1);
        check.same("FILE 1", b.x.fileByte(1, 0, false), -1);
        check.same("FILE -1", b.x.fileByte(-1, 0, true), -1);
        for (int far : FAR) {
            check.same("FILE far", b.x.fileByte(far, 0, true), -1);
            check.same("byte far", b.x.fileByte(0, far, false), -1);
        }
        b.lay("nm", "");
        check.same("none left", b.x.fileByte(0, 0, false), -1);
    }

    private static void handles() {
        Bench b = new Bench();
        b.lay("a", "");
        b.lay("b", "12345");
        b.open("b", 3);
        b.open(":tt", 1);
        b.open(":tt", 7);
        b.open(":tt", 11);
        b.call(10, 1, 4);
        int[][] due = {{1, 4, 1, 3}, {2, 0, -1, 1}, {3, 0, -1, 2}, {4, 0, -1, 2}, {0, -1, -1, -1}};
        for (int h = 1; h <= 5; h++) {
            for (int what = 0; what < 4; what++) {
                check.same("HANDLE " + h + " what " + what, b.x.handle(h, what), due[h - 1][what]);
            }
        }
        check.same("HANDLE 10", b.x.handle(10, 0), 0);
        check.fails("HANDLE 0", NoSuchElementException.class, () -> b.x.handle(0, 0));
        check.fails("HANDLE 11", NoSuchElementException.class, () -> b.x.handle(11, 0));
        check.fails("what 4", NoSuchElementException.class, () -> b.x.handle(1, 4));
        check.fails("what -1", NoSuchElementException.class, () -> b.x.handle(1, -1));
        check.fails("what 4 of one not OPEN", NoSuchElementException.class, () -> b.x.handle(9, 4));
        for (int far : FAR) {
            check.fails("HANDLE far", NoSuchElementException.class, () -> b.x.handle(far, 0));
            check.fails("what far", NoSuchElementException.class, () -> b.x.handle(1, far));
        }
        b.call(2, 1);
        for (int what = 0; what < 4; what++) {
            check.same("behind CLOSE " + what, b.x.handle(1, what), what == 0 ? 0 : -1);
        }
        b.open("a", 0);
        check.same("PLACE of one OPEN again", b.x.handle(1, 1), 0);
    }

    private static void printed() {
        Bench b = new Bench();
        int out = b.open(":tt", 4);
        int err = b.open(":tt", 8);
        b.write(out, "ab\377");
        b.write(err, "xyz4");
        check.same("printed OUT", b.x.printed(0), 3);
        check.same("printed ERR", b.x.printed(1), 4);
        check.same("print OUT", b.x.print(0, 2), 255);
        check.same("print ERR", b.x.print(1, 3), '4');
        check.same("none behind OUT", b.x.print(0, 3), -1);
        check.same("none behind ERR", b.x.print(1, 4), -1);
        check.same("none ahead", b.x.print(0, -1), -1);
        int[] others = {-1, 2, Integer.MAX_VALUE, Integer.MIN_VALUE};
        for (int which : others) {
            check.same("printed " + which, b.x.printed(which), -1);
            check.same("print " + which, b.x.print(which, 0), -1);
        }
        for (int far : FAR) {
            check.same("print far", b.x.print(1, far), -1);
        }
        b.write(err, Bench.times('e', 1995));
        check.same("1,999", b.x.printed(1), 1999);
        b.write(err, "EF");
        check.same("2,001", b.x.printed(1), 2001);
        check.same("the 2,000th is kept", b.x.print(1, 1999), 'E');
        check.same("the 2,001st is not", b.x.print(1, 2000), -1);
    }

    /** A loop of CALLS that bring all of the MEMORY to OUT until the number goes round. */
    private static void printedGoesRound() {
        Bench b = new Bench();
        b.open(":tt", 4);
        b.words(Bench.BLOCK, 1, 0, 16384);
        b.words(Bench.CODE, Rv.addi(10, 0, 5), Rv.MARK_AHEAD, Rv.EBREAK, Rv.MARK_BEHIND, Rv.jal(0, -16));
        b.x.set(11, Bench.BLOCK);
        b.x.set(32, Bench.CODE);
        for (int i = 0; i < 210; i++) {
            b.x.run(5000);
        }
        check.same("as many as there were, of 32 bits", b.x.printed(0), (int) (210L * 1250 * 16384));
        check.isTrue("it went round", 210L * 1250 * 16384 > 1L << 32);
        check.same("2,000 are kept", b.x.print(0, 2000), -1);
        check.same("the first ones", b.x.print(0, Bench.CODE), 0x13);
    }
}
