/** A HostBench with short ways to fill its TAPE and to make CALLS. */
final class Bench {
    static final int CODE = 256;
    static final int BLOCK = 512;

    final Lasting x = new Lasting();

    Bench() {
        words(CODE, Rv.MARK_AHEAD, Rv.EBREAK, Rv.MARK_BEHIND, 0);
    }

    static byte[] text(String s) {
        byte[] bytes = new byte[s.length()];
        for (int i = 0; i < bytes.length; i++) {
            bytes[i] = (byte) s.charAt(i);
        }
        return bytes;
    }

    static String times(char c, int n) {
        return String.valueOf(c).repeat(n);
    }

    /** The TAPE has these bytes alone. */
    Bench tape(byte[] bytes) {
        x.end(0);
        for (int from = 0; from < bytes.length; from += 20) {
            int[] n = new int[5];
            for (int i = 0; i < 20 && from + i < bytes.length; i++) {
                n[i / 4] |= (bytes[from + i] & 255) << 24 - i % 4 * 8;
            }
            x.feed(n[0], n[1], n[2], n[3], n[4]);
        }
        x.end(bytes.length);
        return this;
    }

    Bench tape(String s) {
        return tape(text(s));
    }

    void bytes(int place, String s) {
        tape(s).x.put(place);
    }

    void words(int place, int... words) {
        byte[] bytes = new byte[4 * words.length];
        for (int i = 0; i < bytes.length; i++) {
            bytes[i] = (byte) (words[i / 4] >>> i % 4 * 8);
        }
        tape(bytes).x.put(place);
    }

    int lay(String name, String content) {
        return tape(name + '\0' + content).x.lay();
    }

    /** A CALL with A as told; answers register 10. */
    int callAt(int operation, int a) {
        x.set(10, operation);
        x.set(11, a);
        x.set(32, CODE);
        x.run(2);
        return x.register(10);
    }

    /** A CALL with FIELDS; answers register 10. */
    int call(int operation, int... fields) {
        words(BLOCK, fields);
        return callAt(operation, BLOCK);
    }

    int open(String name, int mode) {
        bytes(1024, name);
        return call(1, 1024, mode, name.length());
    }

    int write(int h, String s) {
        bytes(4096, s);
        return call(5, h, 4096, s.length());
    }

    int remove(String name) {
        bytes(1024, name);
        return call(14, 1024, name.length());
    }

    int rename(String from, String to) {
        bytes(1024, from);
        bytes(1100, to);
        return call(15, 1024, from.length(), 1100, to.length());
    }

    int errno() {
        return x.look(2);
    }

    int word(int place) {
        return x.peek(place) | x.peek(place + 1) << 8 | x.peek(place + 2) << 16 | x.peek(place + 3) << 24;
    }

    String memory(int place, int n) {
        StringBuilder s = new StringBuilder();
        for (int i = 0; i < n; i++) {
            s.append((char) x.peek(place + i));
        }
        return s.toString();
    }

    String content(int k) {
        StringBuilder s = new StringBuilder();
        for (int i = 0; i < x.file(k, 0); i++) {
            s.append((char) x.fileByte(k, i, false));
        }
        return s.toString();
    }

    String name(int k) {
        StringBuilder s = new StringBuilder();
        for (int i = 0; i < x.file(k, 1); i++) {
            s.append((char) x.fileByte(k, i, true));
        }
        return s.toString();
    }

    String names() {
        StringBuilder s = new StringBuilder();
        for (int k = 0; k < x.files(); k++) {
            s.append(k == 0 ? "" : " ").append(name(k));
        }
        return s.toString();
    }

    String output(int which) {
        StringBuilder s = new StringBuilder();
        for (int i = 0; x.print(which, i) != HostBench.NONE; i++) {
            s.append((char) x.print(which, i));
        }
        return s.toString();
    }
}
