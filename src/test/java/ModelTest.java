import java.util.Random;
import java.util.function.Supplier;

/** Random runs, each call answered by the class and by the model. */
public final class ModelTest {
    private static final Check check = new Check("ModelTest");
    private static final int[] EDGES = {0, 1, 2, 3, 4, 5, 7, 8, 9, 10, 11, 12, 24, 25, 80, 81, 255, 256, 399, 400, 401,
        1999, 2000, 2001, 2100, 4999, 5000, 5001, 16376, 16377, 16380, 16382, 16383, 16384, 16385, 131110, -1, -2, -4,
        -8, -16, Integer.MIN_VALUE, Integer.MIN_VALUE + 1, Integer.MAX_VALUE};
    private static final String[] NAMES = {"a", "b", "ab", ":tt", "c", "d", "e", "f", "g", "h", "i", "j", "k", "l", "m",
        "abcdefghijklmnopqrstuvwx", "tmp007", "x\0y"};
    private static final int[] OPERATIONS = {1, 1, 1, 1, 2, 3, 4, 5, 5, 5, 6, 6, 6, 7, 8, 9, 10, 10, 12, 13, 14, 14, 15,
        15, 16, 17, 18, 19, 21, 22, 24, 32, 48, 49, 11, 0};
    private static final int[] OPCODES = {0x03, 0x0F, 0x13, 0x13, 0x17, 0x23, 0x33, 0x33, 0x33, 0x37, 0x63, 0x67, 0x6F,
        0x73};

    private final Random random;
    private final Lasting x = new Lasting();
    private final Model m = new Model();
    private final StringBuilder story = new StringBuilder();
    private int calls = 0;

    private ModelTest(long seed) {
        random = new Random(seed);
    }

    public static void main(String[] args) {
        int rounds = args.length > 0 ? Integer.parseInt(args[0]) : 600;
        for (int seed = 1; seed <= rounds && check.isFine(); seed++) {
            ModelTest test = new ModelTest(seed);
            test.round(seed % 4);
            if (!check.isFine()) {
                System.out.println("seed " + seed + ":" + test.story);
            }
        }
        check.finish();
    }

    private void round(int kind) {
        putWords(256, Rv.MARK_AHEAD, Rv.EBREAK, Rv.MARK_BEHIND, Rv.MARK_AHEAD, Rv.EBREAK, Rv.MARK_BEHIND);
        for (int i = 0; calls < 300 && check.isFine(); i++) {
            int choice = random.nextInt(100);
            if (kind == 0 && choice < 60) {
                program();
            } else if (choice < 80) {
                hostCall();
            } else {
                faceCall();
            }
            if (random.nextInt(6) == 0 && m.state() != 0) {
                both("begin()", () -> {
                    x.begin();
                    return 0;
                }, () -> {
                    m.begin();
                    return 0;
                });
            }
            if (i % 16 == 0) {
                compareAll();
            } else {
                compareGuest();
            }
        }
        compareAll();
    }

    private static String outcome(Supplier<Object> call) {
        try {
            return String.valueOf(call.get());
        } catch (RuntimeException e) {
            return e.getClass().getName();
        }
    }

    private void both(String what, Supplier<Object> ours, Supplier<Object> due) {
        calls++;
        String got = outcome(ours);
        story.append('\n').append(what).append(" = ").append(got);
        check.same(what, got, outcome(due));
    }

    private int pick(int[] row) {
        return row[random.nextInt(row.length)];
    }

    private int any() {
        switch (random.nextInt(5)) {
            case 0:
                return random.nextInt();
            case 1:
                return random.nextInt(16384);
            case 2:
                return random.nextInt(40);
            default:
                return pick(EDGES);
        }
    }

    private void feed(int a, int b, int c, int d, int e) {
        both("feed(" + a + ", " + b + ", " + c + ", " + d + ", " + e + ")", () -> x.feed(a, b, c, d, e),
                () -> m.feed(a, b, c, d, e));
    }

    private void end(int n) {
        both("end(" + n + ")", () -> x.end(n), () -> m.end(n));
    }

    private void tape(String s) {
        end(0);
        for (int from = 0; from < s.length(); from += 20) {
            int[] n = new int[5];
            for (int i = 0; i < 20 && from + i < s.length(); i++) {
                n[i / 4] |= s.charAt(from + i) << 24 - i % 4 * 8;
            }
            feed(n[0], n[1], n[2], n[3], n[4]);
        }
        end(s.length());
    }

    private void put(int place) {
        both("put(" + place + ")", () -> x.put(place), () -> m.put(place));
    }

    private void putWords(int place, int... words) {
        StringBuilder s = new StringBuilder();
        for (int w : words) {
            for (int shift = 0; shift < 32; shift += 8) {
                s.append((char) (w >>> shift & 255));
            }
        }
        tape(s.toString());
        put(place);
    }

    private void set(int r, int v) {
        both("set(" + r + ", " + v + ")", () -> x.set(r, v), () -> m.set(r, v));
    }

    private void run(int n) {
        both("run(" + n + ")", () -> x.run(n), () -> m.run(n));
    }

    private int putName(int place) {
        String name = NAMES[random.nextInt(NAMES.length)];
        tape(name);
        put(place);
        return random.nextInt(20) == 0 ? any() : name.length();
    }

    private int mostly(int usual) {
        return random.nextInt(12) == 0 ? any() : usual;
    }

    private void hostCall() {
        int operation = random.nextInt(60) == 0 ? any() : pick(OPERATIONS);
        if ((operation == 24 || operation == 32) && random.nextInt(3) != 0) {
            operation = 1;
        }
        int block = random.nextInt(15) == 0 ? any() : 512;
        int[] f = {any(), any(), any(), any()};
        int h = random.nextInt(10) == 0 ? any() : 1 + random.nextInt(4);
        switch (operation) {
            case 1:
                f[2] = putName(1024);
                f[0] = mostly(1024);
                f[1] = mostly(random.nextInt(12));
                break;
            case 5:
            case 6:
                f[1] = mostly(3000 + random.nextInt(2000));
                f[2] = mostly(random.nextInt(random.nextInt(3) == 0 ? 1500 : 30));
                f[0] = h;
                break;
            case 10:
                f[1] = mostly(random.nextInt(30));
                f[0] = h;
                break;
            case 2:
            case 9:
            case 12:
                f[0] = h;
                break;
            case 13:
                f[0] = mostly(2000);
                f[1] = mostly(random.nextInt(256));
                f[2] = mostly(7);
                break;
            case 14:
            case 15:
                f[1] = putName(1024);
                f[0] = mostly(1024);
                f[3] = operation == 15 ? putName(1100) : 0;
                f[2] = mostly(1100);
                break;
            case 21:
                f[0] = mostly(2000);
                f[1] = mostly(81);
                break;
            case 32:
                f[0] = mostly(131110);
                break;
            default:
                break;
        }
        if (block == 512) {
            putWords(512, f);
        }
        set(10, operation);
        set(11, operation == 3 || operation == 4 || operation == 48 ? mostly(1000 + random.nextInt(8)) : block);
        set(32, 256);
        run(2);
    }

    private int instruction() {
        int word = random.nextInt() & ~127 | pick(OPCODES);
        if (random.nextInt(4) != 0) {
            int f7 = new int[] {0, 0, 1, 1, 32}[random.nextInt(5)];
            word = (word & 127) == 0x33 ? word & 0x1FFFFFF | f7 << 25 : word;
            word = (word & 127) == 0x13 && (word >>> 12 & 3) == 1 ? word & 0x1FFFFFF | (f7 & 32) << 25 : word;
            word = (word & 127) == 0x67 ? word & ~0x7000 : word;
            word = (word & 127) == 0x73 ? random.nextInt(2) == 0 ? 115 : 1048691 : word;
            word = (word & 127) == 0x63 && random.nextInt(2) == 0 ? word & 0x01FFF07F | 0x400 : word;
            word = (word & 127) == 0x6F && random.nextInt(2) == 0 ? word & 0xFFF | 0x00800000 : word;
        }
        return random.nextInt(60) == 0 ? random.nextInt() : word;
    }

    private void program() {
        int[] words = new int[12];
        for (int i = 0; i < words.length; i++) {
            words[i] = instruction();
        }
        int place = random.nextInt(10) == 0 ? 16384 - 48 : 4 * random.nextInt(60);
        putWords(place, words);
        for (int i = 0; i < 6; i++) {
            set(1 + random.nextInt(31), any());
        }
        set(32, random.nextInt(20) == 0 ? any() : place);
        if (m.state() != 0) {
            both("begin()", () -> {
                x.begin();
                return 0;
            }, () -> {
                m.begin();
                return 0;
            });
            for (int i = 0; i < 6; i++) {
                set(1 + random.nextInt(31), any());
            }
            set(32, place);
        }
        run(random.nextInt(30));
    }

    private String text(int most) {
        StringBuilder s = new StringBuilder();
        int n = random.nextInt(most + 1);
        for (int i = 0; i < n; i++) {
            s.append((char) (1 + random.nextInt(255)));
        }
        return s.toString();
    }

    private void faceCall() {
        int a = any();
        int b = any();
        switch (random.nextInt(18)) {
            case 0:
                feed(any(), any(), any(), any(), any());
                break;
            case 1:
                end(a);
                break;
            case 2:
                put(a);
                break;
            case 3:
            case 4:
            case 5:
                tape(NAMES[random.nextInt(NAMES.length)] + (random.nextInt(20) == 0 ? "" : "\0") + text(60));
                both("lay()", () -> x.lay(), () -> m.lay());
                break;
            case 6:
            case 7:
                tape(text(90));
                both("type()", () -> x.type(), () -> m.type());
                break;
            case 8:
                tape(text(84));
                both("command()", () -> x.command(), () -> m.command());
                break;
            case 9:
                x.clock(a);
                m.clock(a);
                story.append("\nclock(").append(a).append(')');
                break;
            case 10:
                set(a, b);
                break;
            case 11:
                run(random.nextInt(3) == 0 ? a : a & 63);
                break;
            case 12:
                both("look " + a, () -> x.look(a), () -> m.look(a));
                both("register " + a, () -> x.register(a), () -> m.register(a));
                break;
            case 13:
                both("peek " + a, () -> x.peek(a), () -> m.peek(a));
                break;
            case 14:
                both("file " + a + " " + b, () -> x.file(a, b & 3), () -> m.file(a, b & 3));
                both("file what " + b, () -> x.file(0, b), () -> m.file(0, b));
                break;
            case 15:
                both("fileByte " + a + " " + b, () -> x.fileByte(a & 7, b, a > 5), () -> m.fileByte(a & 7, b, a > 5));
                break;
            case 16:
                both("handle " + a + " " + b, () -> x.handle(a, b & 3), () -> m.handle(a, b & 3));
                both("handle what " + b, () -> x.handle(1, b), () -> m.handle(1, b));
                break;
            default:
                both("printed " + a, () -> x.printed(a), () -> m.printed(a));
                both("print " + a + " " + b, () -> x.print(a & 1, b), () -> m.print(a & 1, b));
                break;
        }
    }

    private void compareGuest() {
        check.same("state", x.state(), m.state());
        for (int r = 0; r <= 32; r++) {
            check.same("register " + r, x.register(r), m.register(r));
        }
        for (int what = 0; what <= 8; what++) {
            check.same("look " + what, x.look(what), m.look(what));
        }
        check.same("files", x.files(), m.files());
        for (int h = 1; h <= 10; h++) {
            for (int what = 0; what < 4; what++) {
                check.same("handle " + h + " " + what, x.handle(h, what), m.handle(h, what));
            }
        }
    }

    private void compareAll() {
        compareGuest();
        for (int place = 0; place < 16384; place++) {
            check.same("peek " + place, x.peek(place), m.peek(place));
        }
        for (int k = 0; k < m.files() && k < x.files(); k++) {
            for (int what = 0; what < 3; what++) {
                check.same("file " + k + " " + what, x.file(k, what), m.file(k, what));
            }
            for (int i = 0; i <= m.file(k, 0); i++) {
                check.same("byte of " + k, x.fileByte(k, i, false), m.fileByte(k, i, false));
            }
            for (int i = 0; i <= m.file(k, 1); i++) {
                check.same("name of " + k, x.fileByte(k, i, true), m.fileByte(k, i, true));
            }
        }
        for (int which = 0; which < 2; which++) {
            check.same("printed " + which, x.printed(which), m.printed(which));
            for (int i = 0; i < 2002; i++) {
                check.same("print " + which, x.print(which, i), m.print(which, i));
            }
        }
    }
}
