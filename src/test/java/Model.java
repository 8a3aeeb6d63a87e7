import java.math.BigInteger;
import java.util.ArrayDeque;
import java.util.ArrayList;
import java.util.Arrays;
import java.util.List;
import java.util.NoSuchElementException;
import java.util.TreeMap;

/** The document once more, written in another way than the class: with big numbers, lists and texts. */
final class Model {
    private static final BigInteger ROUND = BigInteger.ONE.shiftLeft(32);

    private static final class Doc {
        String name;
        StringBuilder data = new StringBuilder();
    }

    private static final class Grip {
        Doc doc;
        String way = "";
        String rights = "";
        int place;
    }

    /** Thrown by a STEP that is a TRAP. */
    private static final class Trap extends RuntimeException {
        private static final long serialVersionUID = 1L;
        final int number;

        Trap(int number) {
            super(null, null, false, false);
            this.number = number;
        }
    }

    /** Thrown by a CALL that FAILS. */
    private static final class Fail extends RuntimeException {
        private static final long serialVersionUID = 1L;
        final int e;

        Fail(int e) {
            super(null, null, false, false);
            this.e = e;
        }
    }

    private String tape = "";
    private final char[] memory = new char[16384];
    private final long[] reg = new long[33];
    private String condition = "runs";
    private int trap;
    private int code;
    private long steps;
    private long calls;
    private int latest = -1;
    private int errno;
    private int clock;
    private String command = "";
    private final ArrayDeque<Character> in = new ArrayDeque<>();
    private final StringBuilder[] out = {new StringBuilder(), new StringBuilder()};
    private final long[] came = new long[2];
    private final List<Doc> docs = new ArrayList<>();
    private final TreeMap<Integer, Grip> grips = new TreeMap<>();

    // The face

    int feed(int... numbers) {
        if (tape.length() + 20 > 2100) {
            return -1;
        }
        StringBuilder s = new StringBuilder(tape);
        for (int n : numbers) {
            for (byte b : java.nio.ByteBuffer.allocate(4).putInt(n).array()) {
                s.append((char) (b & 255));
            }
        }
        tape = s.toString();
        return tape.length();
    }

    boolean end(int n) {
        boolean fine = n >= 0 && n <= tape.length();
        tape = fine ? tape.substring(0, n) : tape;
        return fine;
    }

    private String use() {
        String used = tape;
        tape = "";
        return used;
    }

    int put(int place) {
        String t = use();
        if (place < 0 || (long) place + t.length() > 16384) {
            throw new IndexOutOfBoundsException();
        }
        t.getChars(0, t.length(), memory, place);
        return t.length();
    }

    int lay() {
        String t = use();
        int cut = t.indexOf(0);
        if (cut < 1 || cut > 24 || t.length() - cut - 1 > 2000) {
            throw new IllegalArgumentException();
        }
        Doc doc = named(t.substring(0, cut));
        if (doc != null && grippedBy(doc) > 0) {
            throw new IllegalStateException();
        }
        if (doc == null) {
            if (docs.size() == 12) {
                throw new UnsupportedOperationException();
            }
            doc = fresh(t.substring(0, cut));
        }
        doc.data = new StringBuilder(t.substring(cut + 1));
        return doc.data.length();
    }

    int type() {
        String t = use();
        if (in.size() + t.length() > 400) {
            throw new IllegalStateException();
        }
        for (char c : t.toCharArray()) {
            in.addLast(c);
        }
        return in.size();
    }

    int command() {
        String t = use();
        if (t.length() > 80 || t.indexOf(0) >= 0) {
            throw new IllegalArgumentException();
        }
        command = t;
        return t.length();
    }

    void clock(int seconds) {
        clock = seconds;
    }

    void begin() {
        Arrays.fill(reg, 0);
        condition = "runs";
        trap = 0;
        code = 0;
    }

    int run(int n) {
        if (n < 0 || n > 5000) {
            throw new IllegalArgumentException();
        }
        int done = 0;
        for (; done < n && condition.equals("runs"); done++) {
            steps++;
            try {
                step();
            } catch (Trap t) {
                condition = "stopped";
                trap = t.number;
            }
        }
        return done;
    }

    int state() {
        return List.of("runs", "exited", "stopped").indexOf(condition);
    }

    int look(int what) {
        if (what < 0 || what > 8) {
            throw new NoSuchElementException();
        }
        return new int[] {trap, code, errno, (int) steps, (int) calls, latest, in.size(), clock,
            command.length()}[what];
    }

    int register(int r) {
        if (r < 0 || r > 32) {
            throw new NoSuchElementException();
        }
        return (int) reg[r];
    }

    boolean set(int r, int v) {
        if (r <= 0 || r > 32) {
            return false;
        }
        reg[r] = Integer.toUnsignedLong(v);
        return true;
    }

    int peek(int place) {
        return place < 0 || place > 16383 ? -1 : memory[place];
    }

    int files() {
        return docs.size();
    }

    int file(int k, int what) {
        if (k < 0 || k >= docs.size() || what < 0 || what > 2) {
            throw new NoSuchElementException();
        }
        Doc d = docs.get(k);
        return new int[] {d.data.length(), d.name.length(), grippedBy(d)}[what];
    }

    int fileByte(int k, int i, boolean named) {
        if (k < 0 || k >= docs.size()) {
            return -1;
        }
        CharSequence s = named ? docs.get(k).name : docs.get(k).data;
        return i < 0 || i >= s.length() ? -1 : s.charAt(i);
    }

    int handle(int h, int what) {
        if (h < 1 || h > 10 || what < 0 || what > 3) {
            throw new NoSuchElementException();
        }
        Grip g = grips.get(h);
        if (g == null) {
            return what == 0 ? 0 : -1;
        }
        int rights = (g.rights.contains("r") ? 1 : 0) + (g.rights.contains("w") ? 2 : 0)
                + (g.rights.contains("a") ? 4 : 0);
        return new int[] {List.of("", "file", "in", "out", "err").indexOf(g.way), g.place, docs.indexOf(g.doc),
            rights}[what];
    }

    int printed(int which) {
        return which == 0 || which == 1 ? (int) came[which] : -1;
    }

    int print(int which, int i) {
        return which != 0 && which != 1 || i < 0 || i >= out[which].length() ? -1 : out[which].charAt(i);
    }

    // The guest

    private long word(long p) {
        return memory[(int) p] + (memory[(int) p + 1] << 8) + (memory[(int) p + 2] << 16)
                + ((long) memory[(int) p + 3] << 24);
    }

    private static boolean within(long p, long n) {
        return p + n <= 16384;
    }

    private static long low(BigInteger n) {
        return n.mod(ROUND).longValueExact();
    }

    private static long low(long n) {
        return Math.floorMod(n, 1L << 32);
    }

    private static long signed(long n, int bits) {
        long half = 1L << bits - 1;
        return n >= half ? n - 2 * half : n;
    }

    private static String bits(long word, int high, int low) {
        StringBuilder s = new StringBuilder(Long.toBinaryString(word));
        while (s.length() < 32) {
            s.insert(0, '0');
        }
        return s.substring(31 - high, 32 - low);
    }

    private static int number(String bits) {
        return Integer.parseInt(bits, 2);
    }

    private static long signedNumber(String bits) {
        return signed(Long.parseLong(bits, 2), bits.length());
    }

    private void step() {
        long pc = reg[32];
        if (pc % 4 != 0) {
            throw new Trap(1);
        }
        if (!within(pc, 4)) {
            throw new Trap(2);
        }
        long w = word(pc);
        if (w == 1048691) {
            if (pc < 4 || word(pc - 4) != 0x01f01013 || !within(pc + 4, 4) || word(pc + 4) != 0x40705013) {
                throw new Trap(5);
            }
            call();
            return;
        }
        if (w == 115) {
            throw new Trap(4);
        }
        int rd = number(bits(w, 11, 7));
        long a = reg[number(bits(w, 19, 15))];
        long b = reg[number(bits(w, 24, 20))];
        int f3 = number(bits(w, 14, 12));
        String f7 = bits(w, 31, 25);
        long imm = signedNumber(bits(w, 31, 20));
        long next = pc + 4;
        long result = rd == 0 ? 0 : reg[rd];
        switch (bits(w, 6, 0)) {
            case "0110111" -> result = low(signedNumber(bits(w, 31, 12) + "000000000000"));
            case "0010111" -> result = low(pc + signedNumber(bits(w, 31, 12) + "000000000000"));
            case "1101111" -> {
                next = target(pc + signedNumber(bits(w, 31, 31) + bits(w, 19, 12) + bits(w, 20, 20)
                        + bits(w, 30, 21) + "0"));
                result = pc + 4;
            }
            case "1100111" -> {
                known(f3 == 0);
                next = target((a + imm) / 2 * 2 + ((a + imm) < 0 && (a + imm) % 2 != 0 ? -2 : 0));
                result = pc + 4;
            }
            case "1100011" -> {
                known(f3 != 2 && f3 != 3);
                if (takes(f3, a, b)) {
                    next = target(pc + signedNumber(bits(w, 31, 31) + bits(w, 7, 7) + bits(w, 30, 25)
                            + bits(w, 11, 8) + "0"));
                }
            }
            case "0000011" -> {
                known(f3 != 3 && f3 < 6);
                result = low(fetch(f3, low(a + imm)));
            }
            case "0100011" -> {
                known(f3 < 3);
                keep(f3, low(a + signedNumber(f7 + bits(w, 11, 7))), b);
            }
            case "0010011" -> result = immediate(f3, f7, a, imm);
            case "0110011" -> result = both(f3, f7, a, b);
            case "0001111" -> known(f3 < 2);
            default -> known(false);
        }
        if (rd != 0 && !List.of("1100011", "0100011", "0001111").contains(bits(w, 6, 0))) {
            reg[rd] = result;
        }
        reg[32] = low(next);
    }

    private static void known(boolean isKnown) {
        if (!isKnown) {
            throw new Trap(3);
        }
    }

    private static long target(long place) {
        if (Math.floorMod(place, 4L) != 0) {
            throw new Trap(1);
        }
        return low(place);
    }

    private static boolean takes(int f3, long a, long b) {
        return switch (f3) {
            case 0 -> a == b;
            case 1 -> a != b;
            case 4 -> signed(a, 32) < signed(b, 32);
            case 5 -> signed(a, 32) >= signed(b, 32);
            case 6 -> a < b;
            default -> a >= b;
        };
    }

    private long fetch(int f3, long p) {
        int size = new int[] {1, 2, 4, 0, 1, 2}[f3];
        if (p % size != 0) {
            throw new Trap(6);
        }
        if (!within(p, size)) {
            throw new Trap(7);
        }
        long n = 0;
        for (int i = size - 1; i >= 0; i--) {
            n = n * 256 + memory[(int) p + i];
        }
        return f3 < 3 ? signed(n, 8 * size) : n;
    }

    private void keep(int f3, long p, long n) {
        int size = new int[] {1, 2, 4}[f3];
        if (p % size != 0) {
            throw new Trap(8);
        }
        if (!within(p, size)) {
            throw new Trap(9);
        }
        lay((int) p, n, size);
    }

    private void lay(int p, long n, int size) {
        for (int i = 0; i < size; i++) {
            memory[p + i] = (char) (n % 256);
            n /= 256;
        }
    }

    private static long immediate(int f3, String f7, long a, long imm) {
        if (f3 == 1) {
            known(f7.equals("0000000"));
        } else if (f3 == 5) {
            known(f7.equals("0000000") || f7.equals("0100000"));
            return both(5, f7, a, imm % 32);
        }
        return both(f3, "0000000", a, low(imm));
    }

    private static long both(int f3, String f7, long a, long b) {
        BigInteger ua = BigInteger.valueOf(a);
        BigInteger ub = BigInteger.valueOf(b);
        BigInteger sa = BigInteger.valueOf(signed(a, 32));
        BigInteger sb = BigInteger.valueOf(signed(b, 32));
        int shift = (int) (b % 32);
        switch (f7 + f3) {
            case "00000000": return low(ua.add(ub));
            case "01000000": return low(ua.subtract(ub));
            case "00000001": return low(ua.multiply(BigInteger.TWO.pow(shift)));
            case "00000002": return sa.compareTo(sb) < 0 ? 1 : 0;
            case "00000003": return ua.compareTo(ub) < 0 ? 1 : 0;
            case "00000004": return low(ua.xor(ub));
            case "00000005": return low(ua.divide(BigInteger.TWO.pow(shift)));
            case "01000005": return low(sa.shiftRight(shift));
            case "00000006": return low(ua.or(ub));
            case "00000007": return low(ua.and(ub));
            case "00000010": return low(ua.multiply(ub));
            case "00000011": return low(sa.multiply(sb).shiftRight(32));
            case "00000012": return low(sa.multiply(ub).shiftRight(32));
            case "00000013": return low(ua.multiply(ub).shiftRight(32));
            case "00000014": return b == 0 ? low(-1) : low(sa.divide(sb));
            case "00000015": return b == 0 ? low(-1) : low(ua.divide(ub));
            case "00000016": return b == 0 ? a : low(sa.remainder(sb));
            case "00000017": return b == 0 ? a : low(ua.remainder(ub));
            default: throw new Trap(3);
        }
    }

    // The host

    private Doc named(String name) {
        for (Doc d : docs) {
            if (d.name.equals(name)) {
                return d;
            }
        }
        return null;
    }

    private Doc fresh(String name) {
        Doc d = new Doc();
        d.name = name;
        docs.add(d);
        return d;
    }

    private int grippedBy(Doc d) {
        return (int) grips.values().stream().filter(g -> g.doc == d).count();
    }

    private void say(int which, long p, long n) {
        for (long i = 0; i < n; i++) {
            if (out[which].length() < 2000) {
                out[which].append(memory[(int) (p + i)]);
            }
            came[which]++;
        }
    }

    private void need(boolean fine, int e) {
        if (!fine) {
            throw new Fail(e);
        }
    }

    private String name(long p, long n) {
        need(n >= 1 && n <= 24, 36);
        need(within(p, n), 14);
        String s = new String(memory, (int) p, (int) n);
        need(s.indexOf(0) < 0, 22);
        return s;
    }

    private Grip grip(long h) {
        Grip g = h <= 10 ? grips.get((int) h) : null;
        need(g != null, 9);
        return g;
    }

    private void call() {
        calls++;
        long operation = reg[10];
        latest = (int) operation;
        long answer;
        long failing = low(-1);
        try {
            int count = switch ((int) operation) {
                case 1, 5, 6, 13 -> 3;
                case 2, 8, 9, 12, 22 -> 1;
                case 10, 14, 18, 21, 32 -> 2;
                case 15 -> 4;
                default -> 0;
            };
            long[] f = new long[4];
            if (count > 0) {
                need(reg[11] % 4 == 0 && within(reg[11], 4L * count), 14);
                for (int i = 0; i < count; i++) {
                    f[i] = word(reg[11] + 4 * i);
                }
            }
            if (operation == 5 || operation == 6) {
                failing = f[2];
            }
            answer = answer((int) operation, reg[11], f);
        } catch (Fail e) {
            errno = e.e;
            answer = failing;
        }
        if (condition.equals("runs")) {
            reg[10] = low(answer);
            reg[32] = low(reg[32] + 8);
        }
    }

    private long answer(int operation, long a, long[] f) {
        switch (operation) {
            case 1: return open(f[0], f[1], f[2]);
            case 2:
                grip(f[0]);
                grips.remove((int) f[0]);
                return 0;
            case 3:
                need(within(a, 1), 14);
                say(0, a, 1);
                return 0;
            case 4: {
                need(within(a, 1), 14);
                int zero = new String(memory).indexOf(0, (int) a);
                need(zero >= 0, 14);
                say(0, a, zero - a);
                return 0;
            }
            case 5: return write(f[0], f[1], f[2]);
            case 6: return read(f[0], f[1], f[2]);
            case 7: return in.isEmpty() ? -1 : in.removeFirst();
            case 8: return f[0] >= 1L << 31 ? 1 : 0;
            case 9: return grip(f[0]).doc == null ? 1 : 0;
            case 10: {
                Grip g = grip(f[0]);
                need(g.doc != null && f[1] <= g.doc.data.length(), 22);
                g.place = (int) f[1];
                return 0;
            }
            case 12: return grip(f[0]).doc == null ? 0 : grip(f[0]).doc.data.length();
            case 13:
                need(f[1] <= 255 && f[2] >= 7, 22);
                need(within(f[0], 7), 14);
                String.format("tmp%03d%c", f[1], 0).getChars(0, 7, memory, (int) f[0]);
                return 0;
            case 14: {
                Doc d = free(name(f[0], f[1]));
                docs.remove(d);
                return 0;
            }
            case 15: {
                String from = name(f[0], f[1]);
                String to = name(f[2], f[3]);
                Doc d = free(from);
                need(named(to) == null || named(to) == d, 17);
                d.name = to;
                return 0;
            }
            default: return answerMore(operation, a, f);
        }
    }

    private Doc free(String name) {
        Doc d = named(name);
        need(d != null, 2);
        need(grippedBy(d) == 0, 16);
        return d;
    }

    private long answerMore(int operation, long a, long[] f) {
        switch (operation) {
            case 16: return low(steps) / 100;
            case 17: return low(clock);
            case 19: return errno;
            case 21: {
                String s = command + '\0';
                need(f[1] >= s.length(), 22);
                need(within(f[0], s.length()), 14);
                s.getChars(0, s.length(), memory, (int) f[0]);
                lay((int) a + 4, command.length(), 4);
                return 0;
            }
            case 22:
                need(f[0] % 4 == 0 && within(f[0], 16), 14);
                lay((int) f[0], 8192, 4);
                lay((int) f[0] + 4, 12288, 4);
                lay((int) f[0] + 8, 16384, 4);
                lay((int) f[0] + 12, 12288, 4);
                return 0;
            case 24:
                condition = "exited";
                code = a == 131110 ? 0 : 1;
                return 0;
            case 32:
                condition = "exited";
                code = f[0] == 131110 ? (int) f[1] : 1;
                return 0;
            case 48:
                need(a % 4 == 0 && within(a, 8), 14);
                lay((int) a, steps, 8);
                return 0;
            case 49: return 1000;
            default: throw new Fail(38);
        }
    }

    private long open(long p, long mode, long n) {
        need(mode <= 11, 22);
        String s = name(p, n);
        need(grips.size() < 10, 24);
        int h = 1;
        while (grips.containsKey(h)) {
            h++;
        }
        Grip g = new Grip();
        int m = (int) mode;
        if (s.equals(":tt")) {
            g.way = m < 4 ? "in" : m < 8 ? "out" : "err";
            g.rights = m < 4 ? "r" : "w";
        } else {
            Doc d = named(s);
            need(d != null || m >= 4, 2);
            need(d != null || docs.size() < 12, 28);
            d = d == null ? fresh(s) : d;
            if (m / 4 == 1) {
                d.data.setLength(0);
            }
            g.way = "file";
            g.doc = d;
            g.rights = new String[] {"r", "r", "rw", "rw", "w", "w", "rw", "rw", "wa", "wa", "rwa", "rwa"}[m];
        }
        grips.put(h, g);
        return h;
    }

    private long write(long h, long p, long n) {
        Grip g = grip(h);
        need(g.rights.contains("w"), 9);
        need(within(p, n), 14);
        if (g.doc == null) {
            say(g.way.equals("err") ? 1 : 0, p, n);
            return 0;
        }
        if (g.rights.contains("a")) {
            g.place = g.doc.data.length();
        }
        int done = 0;
        while (done < n && g.place < 2000) {
            while (g.doc.data.length() <= g.place) {
                g.doc.data.append('\0');
            }
            g.doc.data.setCharAt(g.place, memory[(int) p + done]);
            g.place++;
            done++;
        }
        errno = done < n ? 28 : errno;
        return n - done;
    }

    private long read(long h, long p, long n) {
        Grip g = grip(h);
        need(g.rights.contains("r"), 9);
        need(within(p, n), 14);
        int done = 0;
        while (done < n && (g.doc == null ? !in.isEmpty() : g.place < g.doc.data.length())) {
            if (g.doc == null) {
                memory[(int) p + done] = in.removeFirst();
            } else {
                memory[(int) p + done] = g.doc.data.charAt(g.place);
                g.place++;
            }
            done++;
        }
        return n - done;
    }
}
