import java.util.NoSuchElementException;

/** A small RV32IM guest whose programs ask their host for things by semihosting. */
public final class HostBench {
    public static final int NONE = -1;

    private static final int MOST_STEPS = 5000;
    private static final int TAPE_LIMIT = 2100;
    private static final int NUMBERS_OF_A_FEED = 5;
    private static final int BYTES_OF_A_FEED = 20;
    private static final int NAME_LIMIT = 24;
    private static final int FILE_LIMIT = 2000;
    private static final int INPUT_LIMIT = 400;
    private static final int COMMAND_LIMIT = 80;

    private final Bytes tape;
    private final Bytes laidName;
    private final int[] fed;
    private final Host host;
    private final Folder folder;
    private final Desk desk;
    private final Guest guest;
    private final Memory memory;

    public HostBench() {
        tape = new Bytes(TAPE_LIMIT);
        laidName = new Bytes(NAME_LIMIT);
        fed = new int[NUMBERS_OF_A_FEED];
        host = new Host();
        folder = host.folder;
        desk = host.desk;
        guest = host.guest;
        memory = guest.memory;
    }

    public int feed(int a, int b, int c, int d, int e) {
        if (tape.spare() < BYTES_OF_A_FEED) {
            return NONE;
        }
        fed[0] = a;
        fed[1] = b;
        fed[2] = c;
        fed[3] = d;
        fed[4] = e;
        for (int i = 0; i < NUMBERS_OF_A_FEED; i++) {
            for (int shift = 24; shift >= 0; shift -= 8) {
                tape.add(fed[i] >>> shift);
            }
        }
        return tape.size();
    }

    public boolean end(int n) {
        if (n < 0 || n > tape.size()) {
            return false;
        }
        tape.cut(n);
        return true;
    }

    public int put(int place) throws IndexOutOfBoundsException {
        int count = tape.size();
        if (place < 0 || !memory.hasArea(place, count)) {
            tape.cut(0);
            throw new IndexOutOfBoundsException("the bytes would not all be in the memory");
        }
        for (int i = 0; i < count; i++) {
            memory.storeByte(place + i, tape.at(i));
        }
        tape.cut(0);
        return count;
    }

    public int lay() throws IllegalArgumentException, IllegalStateException, UnsupportedOperationException {
        int zero = tape.firstZero();
        int count = tape.size() - zero - 1;
        if (zero < 1 || zero > NAME_LIMIT || count > FILE_LIMIT) {
            tape.cut(0);
            throw new IllegalArgumentException("no name, or too many bytes");
        }
        laidName.cut(0);
        laidName.append(tape, 0, zero);
        HostFile file = folder.find(laidName);
        if (file != null && desk.openOn(file) > 0) {
            tape.cut(0);
            throw new IllegalStateException("an open handle has that file");
        }
        if (file == null) {
            file = folder.make(laidName);
        }
        if (file == null) {
            tape.cut(0);
            throw new UnsupportedOperationException("there are as many files as there may be");
        }
        file.content.cut(0);
        file.content.append(tape, zero + 1, count);
        tape.cut(0);
        return count;
    }

    public int type() throws IllegalStateException {
        int count = tape.size();
        if (count > host.input.spare()) {
            tape.cut(0);
            throw new IllegalStateException("too many bytes would wait");
        }
        host.input.append(tape, 0, count);
        tape.cut(0);
        return host.input.size();
    }

    public int command() throws IllegalArgumentException {
        int count = tape.size();
        if (count > COMMAND_LIMIT || tape.firstZero() != NONE) {
            tape.cut(0);
            throw new IllegalArgumentException("too many bytes, or a 0 among them");
        }
        host.command.cut(0);
        host.command.append(tape, 0, count);
        tape.cut(0);
        return count;
    }

    public void clock(int seconds) {
        host.seconds = seconds;
    }

    public void begin() {
        guest.restart();
    }

    public int run(int steps) throws IllegalArgumentException {
        if (steps < 0 || steps > MOST_STEPS) {
            throw new IllegalArgumentException("not a number of steps that may be run");
        }
        int done = 0;
        while (done < steps && guest.state == Guest.RUNS) {
            done++;
            if (guest.step()) {
                host.answerCall();
            }
        }
        return done;
    }

    public int state() {
        return guest.state;
    }

    public int look(int what) throws NoSuchElementException {
        switch (what) {
            case 0:
                return guest.trap;
            case 1:
                return guest.code;
            case 2:
                return host.errno;
            case 3:
                return (int) guest.steps;
            case 4:
                return host.calls;
            case 5:
                return host.latest;
            case 6:
                return host.input.size();
            case 7:
                return host.seconds;
            case 8:
                return host.command.size();
            default:
                throw new NoSuchElementException("there is nothing such to look at");
        }
    }

    public int register(int r) throws NoSuchElementException {
        if (r < 0 || r > Guest.PC) {
            throw new NoSuchElementException("no such register");
        }
        return r == Guest.PC ? guest.pc : guest.value(r);
    }

    public boolean set(int r, int v) {
        if (r < 1 || r > Guest.PC) {
            return false;
        }
        if (r == Guest.PC) {
            guest.pc = v;
        } else {
            guest.assign(r, v);
        }
        return true;
    }

    public int peek(int place) {
        return memory.byteAt(place);
    }

    public int files() {
        return folder.count;
    }

    public int file(int k, int what) throws NoSuchElementException {
        HostFile file = folder.get(k);
        if (file == null || what < 0 || what > 2) {
            throw new NoSuchElementException("no such file, or nothing such of it");
        }
        if (what == 0) {
            return file.content.size();
        }
        return what == 1 ? file.name.size() : desk.openOn(file);
    }

    public int fileByte(int k, int i, boolean named) {
        HostFile file = folder.get(k);
        if (file == null) {
            return NONE;
        }
        return named ? file.name.at(i) : file.content.at(i);
    }

    public int handle(int h, int what) throws NoSuchElementException {
        Handle handle = desk.get(h);
        if (handle == null || what < 0 || what > 3) {
            throw new NoSuchElementException("no such handle, or nothing such of it");
        }
        if (what == 0) {
            return handle.kind;
        }
        if (handle.kind == Handle.SHUT) {
            return NONE;
        }
        if (what == 1) {
            return handle.place;
        }
        return what == 2 ? folder.numberOf(handle.file) : handle.rights;
    }

    public int printed(int which) {
        if (which == 0) {
            return host.out.total;
        }
        return which == 1 ? host.err.total : NONE;
    }

    public int print(int which, int i) {
        if (which == 0) {
            return host.out.kept.at(i);
        }
        return which == 1 ? host.err.kept.at(i) : NONE;
    }

    /** A row of bytes that grows up to a limit; its room is made once and used again. */
    private static final class Bytes {
        private final byte[] room;
        private int size;

        Bytes(int limit) {
            room = new byte[Math.max(limit, 0)];
            size = 0;
        }

        int size() {
            return size;
        }

        int spare() {
            return room.length - size;
        }

        int at(int i) {
            return i >= 0 && i < size ? room[i] & 255 : NONE;
        }

        void add(int value) {
            if (size < room.length) {
                room[size] = (byte) value;
                size++;
            }
        }

        void change(int i, int value) {
            if (i >= 0 && i < size) {
                room[i] = (byte) value;
            }
        }

        void cut(int n) {
            if (n >= 0 && n < size) {
                size = n;
            }
        }

        void append(Bytes other, int from, int count) {
            int first = Math.max(0, from);
            int came = Math.max(0, Math.min(count, Math.min(other.size - first, room.length - size)));
            for (int i = 0; i < came; i++) {
                room[size + i] = other.room[first + i];
            }
            size += came;
        }

        void dropFirst(int n) {
            int gone = Math.max(0, Math.min(n, size));
            size -= gone;
            for (int i = 0; i < size; i++) {
                room[i] = room[i + gone];
            }
        }

        int firstZero() {
            for (int i = 0; i < size; i++) {
                if (room[i] == 0) {
                    return i;
                }
            }
            return NONE;
        }

        boolean same(Bytes other) {
            if (size != other.size) {
                return false;
            }
            for (int i = 0; i < size; i++) {
                if (room[i] != other.room[i]) {
                    return false;
                }
            }
            return true;
        }
    }

    /** The MEMORY; places and counts are numbers without sign. */
    private static final class Memory {
        static final int SIZE = 16384;
        static final long WITHOUT_SIGN = 0xFFFFFFFFL;

        private final byte[] bytes;

        Memory() {
            bytes = new byte[SIZE];
        }

        boolean hasArea(int place, int count) {
            return (place & WITHOUT_SIGN) + (count & WITHOUT_SIGN) <= SIZE;
        }

        int byteAt(int place) {
            return place >= 0 && place < SIZE ? bytes[place] & 255 : NONE;
        }

        void storeByte(int place, int value) {
            if (place >= 0 && place < SIZE) {
                bytes[place] = (byte) value;
            }
        }

        int halfAt(int place) {
            if (!hasArea(place, 2)) {
                return 0;
            }
            return bytes[place] & 255 | (bytes[place + 1] & 255) << 8;
        }

        int wordAt(int place) {
            if (!hasArea(place, 4)) {
                return 0;
            }
            return bytes[place] & 255 | (bytes[place + 1] & 255) << 8
                    | (bytes[place + 2] & 255) << 16 | bytes[place + 3] << 24;
        }

        void storeWord(int place, int value) {
            for (int i = 0; i < 4; i++) {
                storeByte(place + i, value >>> 8 * i);
            }
        }

        int lengthUpToZero(int place) {
            if (place < 0) {
                return NONE;
            }
            for (int i = place; i < SIZE; i++) {
                if (bytes[i] == 0) {
                    return i - place;
                }
            }
            return NONE;
        }
    }

    /** The registers, PC and the instructions. */
    private static final class Guest {
        static final int PC = 32;
        static final int RUNS = 0;
        static final int EXITED = 1;
        static final int STOPPED = 2;

        private static final int NO_TRAP = 0;
        private static final int CROOKED_JUMP = 1;
        private static final int NO_CODE_THERE = 2;
        private static final int NO_INSTRUCTION = 3;
        private static final int ENVIRONMENT_CALL = 4;
        private static final int LONE_BREAK = 5;
        private static final int CROOKED_LOAD = 6;
        private static final int LOAD_OUTSIDE = 7;
        private static final int CROOKED_STORE = 8;
        private static final int STORE_OUTSIDE = 9;

        private static final int ECALL = 115;
        private static final int EBREAK = 1048691;
        private static final int MARK_AHEAD = 32509971;
        private static final int MARK_BEHIND = 1081102355;

        private final Memory memory;
        private final int[] registers;
        private int pc;
        private int next;
        private int state;
        private int trap;
        private int code;
        private long steps;

        Guest() {
            memory = new Memory();
            registers = new int[PC];
            pc = 0;
            next = 0;
            state = RUNS;
            trap = NO_TRAP;
            code = 0;
            steps = 0;
        }

        void restart() {
            for (int r = 0; r < PC; r++) {
                registers[r] = 0;
            }
            pc = 0;
            state = RUNS;
            trap = NO_TRAP;
            code = 0;
        }

        int value(int r) {
            return registers[r & 31];
        }

        void assign(int r, int v) {
            if ((r & 31) != 0) {
                registers[r & 31] = v;
            }
        }

        void exit(int withCode) {
            state = EXITED;
            code = withCode;
        }

        void goOnBehindCall(int answer) {
            registers[10] = answer;
            pc += 8;
        }

        /** One STEP; true if it is a CALL, which the host has yet to answer. */
        boolean step() {
            steps++;
            if ((pc & 3) != 0) {
                stop(CROOKED_JUMP);
                return false;
            }
            if (!memory.hasArea(pc, 4)) {
                stop(NO_CODE_THERE);
                return false;
            }
            int word = memory.wordAt(pc);
            if (word == EBREAK && isMarked()) {
                return true;
            }
            next = pc + 4;
            int fault = execute(word);
            if (fault == NO_TRAP) {
                pc = next;
            } else {
                stop(fault);
            }
            return false;
        }

        private void stop(int fault) {
            state = STOPPED;
            trap = fault;
        }

        private boolean isMarked() {
            return pc >= 4 && memory.wordAt(pc - 4) == MARK_AHEAD
                    && memory.hasArea(pc + 4, 4) && memory.wordAt(pc + 4) == MARK_BEHIND;
        }

        private int execute(int word) {
            switch (word & 127) {
                case 0x03:
                    return load(word);
                case 0x0F:
                    return funct3(word) <= 1 ? NO_TRAP : NO_INSTRUCTION;
                case 0x13:
                    return operateOnNumber(word);
                case 0x17:
                    assign(word >>> 7, pc + (word & 0xFFFFF000));
                    return NO_TRAP;
                case 0x23:
                    return store(word);
                case 0x33:
                    return operate(word);
                case 0x37:
                    assign(word >>> 7, word & 0xFFFFF000);
                    return NO_TRAP;
                case 0x63:
                    return branch(word);
                case 0x67:
                    return funct3(word) == 0
                            ? jump(word, value(word >>> 15) + (word >> 20) & ~1) : NO_INSTRUCTION;
                case 0x6F:
                    return jump(word, pc + jumpOffset(word));
                case 0x73:
                    return system(word);
                default:
                    return NO_INSTRUCTION;
            }
        }

        private static int funct3(int word) {
            return word >>> 12 & 7;
        }

        private static int jumpOffset(int word) {
            return word >> 31 << 20 | word & 0xFF000 | word >>> 9 & 0x800 | word >>> 20 & 0x7FE;
        }

        private static int branchOffset(int word) {
            return word >> 31 << 12 | (word & 0x80) << 4 | word >>> 20 & 0x7E0 | word >>> 7 & 0x1E;
        }

        private static int system(int word) {
            if (word == ECALL) {
                return ENVIRONMENT_CALL;
            }
            return word == EBREAK ? LONE_BREAK : NO_INSTRUCTION;
        }

        private int jump(int word, int target) {
            if ((target & 3) != 0) {
                return CROOKED_JUMP;
            }
            assign(word >>> 7, pc + 4);
            next = target;
            return NO_TRAP;
        }

        private int branch(int word) {
            int kind = funct3(word);
            if (kind == 2 || kind == 3) {
                return NO_INSTRUCTION;
            }
            if (!isTaken(kind, value(word >>> 15), value(word >>> 20))) {
                return NO_TRAP;
            }
            int target = pc + branchOffset(word);
            if ((target & 3) != 0) {
                return CROOKED_JUMP;
            }
            next = target;
            return NO_TRAP;
        }

        private static boolean isTaken(int kind, int a, int b) {
            switch (kind) {
                case 0:
                    return a == b;
                case 1:
                    return a != b;
                case 4:
                    return a < b;
                case 5:
                    return a >= b;
                case 6:
                    return isLessWithoutSign(a, b);
                default:
                    return !isLessWithoutSign(a, b);
            }
        }

        private static boolean isLessWithoutSign(int a, int b) {
            return (a & Memory.WITHOUT_SIGN) < (b & Memory.WITHOUT_SIGN);
        }

        private int load(int word) {
            int kind = funct3(word);
            if (kind == 3 || kind > 5) {
                return NO_INSTRUCTION;
            }
            int place = value(word >>> 15) + (word >> 20);
            int size = 1 << (kind & 3);
            if ((place & size - 1) != 0) {
                return CROOKED_LOAD;
            }
            if (!memory.hasArea(place, size)) {
                return LOAD_OUTSIDE;
            }
            assign(word >>> 7, loaded(kind, place));
            return NO_TRAP;
        }

        private int loaded(int kind, int place) {
            switch (kind) {
                case 0:
                    return (byte) memory.byteAt(place);
                case 1:
                    return (short) memory.halfAt(place);
                case 2:
                    return memory.wordAt(place);
                case 4:
                    return memory.byteAt(place);
                default:
                    return memory.halfAt(place);
            }
        }

        private int store(int word) {
            int kind = funct3(word);
            if (kind > 2) {
                return NO_INSTRUCTION;
            }
            int place = value(word >>> 15) + (word >> 25 << 5 | word >>> 7 & 31);
            int size = 1 << kind;
            if ((place & size - 1) != 0) {
                return CROOKED_STORE;
            }
            if (!memory.hasArea(place, size)) {
                return STORE_OUTSIDE;
            }
            int stored = value(word >>> 20);
            for (int i = 0; i < size; i++) {
                memory.storeByte(place + i, stored >>> 8 * i);
            }
            return NO_TRAP;
        }

        private int operateOnNumber(int word) {
            int kind = funct3(word);
            int top = word >>> 25;
            boolean isOther = kind == 5 && top == 32;
            if ((kind == 1 || kind == 5) && top != 0 && !isOther) {
                return NO_INSTRUCTION;
            }
            assign(word >>> 7, computed(kind, value(word >>> 15), word >> 20, isOther));
            return NO_TRAP;
        }

        private int operate(int word) {
            int kind = funct3(word);
            int top = word >>> 25;
            int a = value(word >>> 15);
            int b = value(word >>> 20);
            if (top == 1) {
                assign(word >>> 7, kind < 4 ? multiplied(kind, a, b) : divided(kind, a, b));
                return NO_TRAP;
            }
            boolean isOther = top == 32 && (kind == 0 || kind == 5);
            if (top != 0 && !isOther) {
                return NO_INSTRUCTION;
            }
            assign(word >>> 7, computed(kind, a, b, isOther));
            return NO_TRAP;
        }

        /** What RV32I makes of two numbers; isOther means SUB, and the shift right with sign. */
        private static int computed(int kind, int a, int b, boolean isOther) {
            switch (kind) {
                case 0:
                    return isOther ? a - b : a + b;
                case 1:
                    return a << (b & 31);
                case 2:
                    return a < b ? 1 : 0;
                case 3:
                    return isLessWithoutSign(a, b) ? 1 : 0;
                case 4:
                    return a ^ b;
                case 5:
                    return isOther ? a >> (b & 31) : a >>> (b & 31);
                case 6:
                    return a | b;
                default:
                    return a & b;
            }
        }

        private static int multiplied(int kind, int a, int b) {
            switch (kind) {
                case 0:
                    return a * b;
                case 1:
                    return (int) ((long) a * (long) b >> 32);
                case 2:
                    return (int) ((long) a * (b & Memory.WITHOUT_SIGN) >> 32);
                default:
                    return (int) ((a & Memory.WITHOUT_SIGN) * (b & Memory.WITHOUT_SIGN) >>> 32);
            }
        }

        private static int divided(int kind, int a, int b) {
            boolean isRest = kind >= 6;
            if (b == 0) {
                return isRest ? a : -1;
            }
            boolean hasSign = (kind & 1) == 0;
            // As longs the least number by -1 needs no case of its own: the cast brings it back.
            long dividend = hasSign ? a : a & Memory.WITHOUT_SIGN;
            long divisor = hasSign ? b : b & Memory.WITHOUT_SIGN;
            return (int) (isRest ? dividend % divisor : dividend / divisor);
        }
    }

    /** A FILE; its object is used again for another one when it is gone. */
    private static final class HostFile {
        private final Bytes name;
        private final Bytes content;

        HostFile() {
            name = new Bytes(NAME_LIMIT);
            content = new Bytes(FILE_LIMIT);
        }
    }

    /** The FILES as they came; the objects from count on wait to be used. */
    private static final class Folder {
        private static final int MOST = 12;

        private final HostFile[] files;
        private int count;

        Folder() {
            files = new HostFile[MOST];
            for (int i = 0; i < MOST; i++) {
                files[i] = new HostFile();
            }
            count = 0;
        }

        HostFile get(int k) {
            return k >= 0 && k < count ? files[k] : null;
        }

        HostFile find(Bytes name) {
            for (int i = 0; i < count; i++) {
                if (files[i].name.same(name)) {
                    return files[i];
                }
            }
            return null;
        }

        int numberOf(HostFile file) {
            for (int i = 0; i < count; i++) {
                if (files[i] == file) {
                    return i;
                }
            }
            return NONE;
        }

        /** A new FILE without bytes, or null if there is no room for one. */
        HostFile make(Bytes name) {
            if (count >= MOST) {
                return null;
            }
            HostFile file = files[count];
            count++;
            file.name.cut(0);
            file.name.append(name, 0, name.size());
            file.content.cut(0);
            return file;
        }

        void remove(HostFile file) {
            int k = numberOf(file);
            if (k == NONE) {
                return;
            }
            count--;
            for (int i = k; i < count; i++) {
                files[i] = files[i + 1];
            }
            files[count] = file;
        }
    }

    /** A HANDLE. */
    private static final class Handle {
        static final int SHUT = 0;
        static final int ON_FILE = 1;
        static final int ON_INPUT = 2;
        static final int ON_OUT = 3;
        static final int ON_ERR = 4;

        static final int READ = 1;
        static final int WRITE = 2;
        static final int ADD = 4;

        private int kind;
        private HostFile file;
        private int place;
        private int rights;

        Handle() {
            kind = SHUT;
            file = null;
            place = 0;
            rights = 0;
        }

        void openConsole(int mode) {
            kind = mode < 4 ? ON_INPUT : mode < 8 ? ON_OUT : ON_ERR;
            file = null;
            place = 0;
            rights = mode < 4 ? READ : WRITE;
        }

        void openFile(HostFile opened, int mode) {
            kind = ON_FILE;
            file = opened;
            place = 0;
            rights = mode < 4 ? READ : mode < 8 ? WRITE : WRITE | ADD;
            if ((mode & 2) != 0) {
                rights |= READ | WRITE;
            }
        }

        void shut() {
            kind = SHUT;
            file = null;
        }

        boolean may(int right) {
            return (rights & right) != 0;
        }
    }

    /** The HANDLES, from 1 on. */
    private static final class Desk {
        private static final int MOST = 10;

        private final Handle[] handles;

        Desk() {
            handles = new Handle[MOST];
            for (int i = 0; i < MOST; i++) {
                handles[i] = new Handle();
            }
        }

        Handle get(int h) {
            return h >= 1 && h <= MOST ? handles[h - 1] : null;
        }

        /** HANDLE h if it is OPEN, else null. */
        Handle getOpen(int h) {
            Handle handle = get(h);
            return handle != null && handle.kind != Handle.SHUT ? handle : null;
        }

        int leastShut() {
            for (int i = 0; i < MOST; i++) {
                if (handles[i].kind == Handle.SHUT) {
                    return i + 1;
                }
            }
            return NONE;
        }

        int openOn(HostFile file) {
            int found = 0;
            for (int i = 0; i < MOST; i++) {
                if (handles[i].kind == Handle.ON_FILE && handles[i].file == file) {
                    found++;
                }
            }
            return found;
        }
    }

    /** OUT or ERR: all bytes are counted, the first ones kept. */
    private static final class Output {
        private static final int KEPT = 2000;

        private final Bytes kept;
        private int total;

        Output() {
            kept = new Bytes(KEPT);
            total = 0;
        }

        void receive(Memory memory, int place, int count) {
            int room = Math.min(count, kept.spare());
            for (int i = 0; i < room; i++) {
                kept.add(memory.byteAt(place + i));
            }
            total += count;
        }
    }

    /** What the host has, and how it answers a CALL. */
    private static final class Host {
        private static final int NO_SUCH_FILE = 2;
        private static final int BAD_HANDLE = 9;
        private static final int BAD_PLACE = 14;
        private static final int BUSY = 16;
        private static final int NAME_TAKEN = 17;
        private static final int BAD_NUMBER = 22;
        private static final int NO_HANDLE_LEFT = 24;
        private static final int NO_ROOM = 28;
        private static final int BAD_NAME_LENGTH = 36;
        private static final int NOT_DONE_HERE = 38;

        private static final int ENDED_WELL = 131110;
        private static final int HIGHEST_MODE = 11;
        private static final int TEMPORARY_NAME_SIZE = 7;
        private static final int[] HEAP = {8192, 12288, 16384, 12288};

        private final Guest guest;
        private final Memory memory;
        private final Folder folder;
        private final Desk desk;
        private final Bytes input;
        private final Output out;
        private final Output err;
        private final Bytes command;
        private final Bytes firstName;
        private final Bytes secondName;
        private int block;
        private int errno;
        private int seconds;
        private int calls;
        private int latest;

        Host() {
            guest = new Guest();
            memory = guest.memory;
            folder = new Folder();
            desk = new Desk();
            input = new Bytes(INPUT_LIMIT);
            out = new Output();
            err = new Output();
            command = new Bytes(COMMAND_LIMIT);
            firstName = new Bytes(NAME_LIMIT);
            secondName = new Bytes(NAME_LIMIT);
            block = 0;
            errno = 0;
            seconds = 0;
            calls = 0;
            latest = NONE;
        }

        void answerCall() {
            int operation = guest.value(10);
            block = guest.value(11);
            calls++;
            latest = operation;
            int answer = hasFields(fieldsOf(operation)) ? perform(operation) : fail(BAD_PLACE);
            // An EXIT leaves register 10 and PC as they are.
            if (guest.state == Guest.RUNS) {
                guest.goOnBehindCall(answer);
            }
        }

        private static int fieldsOf(int operation) {
            switch (operation) {
                case 2:
                case 8:
                case 9:
                case 12:
                case 22:
                    return 1;
                case 10:
                case 14:
                case 18:
                case 21:
                case 32:
                    return 2;
                case 1:
                case 5:
                case 6:
                case 13:
                    return 3;
                case 15:
                    return 4;
                default:
                    return 0;
            }
        }

        private boolean hasFields(int count) {
            return count == 0 || (block & 3) == 0 && memory.hasArea(block, 4 * count);
        }

        private int field(int k) {
            return memory.wordAt(block + 4 * k);
        }

        private int fail(int e) {
            errno = e;
            return -1;
        }

        private int perform(int operation) {
            switch (operation) {
                case 1:
                    return open(field(0), field(1), field(2));
                case 2:
                    return close(field(0));
                case 3:
                    return writeText(memory.hasArea(block, 1) ? 1 : NONE);
                case 4:
                    return writeText(memory.lengthUpToZero(block));
                case 5:
                    return write(field(0), field(1), field(2));
                case 6:
                    return read(field(0), field(1), field(2));
                case 7:
                    return readByte();
                case 8:
                    return field(0) >>> 31;
                case 9:
                    return isConsole(field(0));
                case 10:
                    return seek(field(0), field(1));
                case 12:
                    return length(field(0));
                case 13:
                    return temporaryName(field(0), field(1), field(2));
                case 14:
                    return remove(field(0), field(1));
                case 15:
                    return rename();
                default:
                    return performOther(operation);
            }
        }

        private int performOther(int operation) {
            switch (operation) {
                case 16:
                    return (int) ((guest.steps & Memory.WITHOUT_SIGN) / 100);
                case 17:
                    return seconds;
                case 19:
                    return errno;
                case 21:
                    return tellCommand(field(0), field(1));
                case 22:
                    return tellHeap(field(0));
                case 24:
                    return exit(block, 0);
                case 32:
                    return exit(field(0), field(1));
                case 48:
                    return tellSteps();
                case 49:
                    return 1000;
                default:
                    return fail(NOT_DONE_HERE);
            }
        }

        /** Brings a NAME out of the MEMORY; answers what is wrong with it, 0 if nothing is. */
        private int bringName(Bytes name, int place, int n) {
            if (n < 1 || n > NAME_LIMIT) {
                return BAD_NAME_LENGTH;
            }
            if (!memory.hasArea(place, n)) {
                return BAD_PLACE;
            }
            name.cut(0);
            for (int i = 0; i < n; i++) {
                name.add(memory.byteAt(place + i));
            }
            return name.firstZero() == NONE ? 0 : BAD_NUMBER;
        }

        private static boolean namesConsole(Bytes name) {
            return name.size() == 3 && name.at(0) == ':' && name.at(1) == 't' && name.at(2) == 't';
        }

        private int open(int place, int mode, int n) {
            if (mode < 0 || mode > HIGHEST_MODE) {
                return fail(BAD_NUMBER);
            }
            int fault = bringName(firstName, place, n);
            if (fault != 0) {
                return fail(fault);
            }
            int h = desk.leastShut();
            Handle handle = desk.get(h);
            if (handle == null) {
                return fail(NO_HANDLE_LEFT);
            }
            if (namesConsole(firstName)) {
                handle.openConsole(mode);
                return h;
            }
            return openFile(handle, mode) ? h : -1;
        }

        private boolean openFile(Handle handle, int mode) {
            HostFile file = folder.find(firstName);
            if (file == null && mode < 4) {
                fail(NO_SUCH_FILE);
                return false;
            }
            if (file == null) {
                file = folder.make(firstName);
            }
            if (file == null) {
                fail(NO_ROOM);
                return false;
            }
            if (mode >= 4 && mode < 8) {
                file.content.cut(0);
            }
            handle.openFile(file, mode);
            return true;
        }

        private int close(int h) {
            Handle handle = desk.getOpen(h);
            if (handle == null) {
                return fail(BAD_HANDLE);
            }
            handle.shut();
            return 0;
        }

        private int writeText(int length) {
            if (length == NONE) {
                return fail(BAD_PLACE);
            }
            out.receive(memory, block, length);
            return 0;
        }

        private int write(int h, int place, int n) {
            Handle handle = desk.getOpen(h);
            if (handle == null || !handle.may(Handle.WRITE)) {
                errno = BAD_HANDLE;
                return n;
            }
            if (!memory.hasArea(place, n)) {
                errno = BAD_PLACE;
                return n;
            }
            HostFile file = handle.file;
            if (file != null) {
                return writeFile(handle, file, place, n);
            }
            Output output = handle.kind == Handle.ON_ERR ? err : out;
            output.receive(memory, place, n);
            return 0;
        }

        private int writeFile(Handle handle, HostFile file, int place, int n) {
            Bytes content = file.content;
            if (handle.may(Handle.ADD)) {
                handle.place = content.size();
            }
            int start = handle.place;
            int count = Math.max(0, Math.min(n, FILE_LIMIT - start));
            if (count > 0) {
                for (int i = content.size(); i < start; i++) {
                    content.add(0);
                }
            }
            for (int i = 0; i < count; i++) {
                int value = memory.byteAt(place + i);
                if (start + i < content.size()) {
                    content.change(start + i, value);
                } else {
                    content.add(value);
                }
            }
            handle.place = start + count;
            if (count < n) {
                errno = NO_ROOM;
            }
            return n - count;
        }

        private int read(int h, int place, int n) {
            Handle handle = desk.getOpen(h);
            if (handle == null || !handle.may(Handle.READ)) {
                errno = BAD_HANDLE;
                return n;
            }
            if (!memory.hasArea(place, n)) {
                errno = BAD_PLACE;
                return n;
            }
            HostFile file = handle.file;
            if (file == null) {
                int came = bringBytes(input, 0, place, n);
                input.dropFirst(came);
                return n - came;
            }
            int came = bringBytes(file.content, handle.place, place, n);
            handle.place += came;
            return n - came;
        }

        /** Bytes of a row, n at most, come to the MEMORY; answers how many. */
        private int bringBytes(Bytes source, int from, int place, int n) {
            int count = Math.max(0, Math.min(n, source.size() - from));
            for (int i = 0; i < count; i++) {
                memory.storeByte(place + i, source.at(from + i));
            }
            return count;
        }

        private int readByte() {
            int first = input.at(0);
            input.dropFirst(1);
            return first;
        }

        private int isConsole(int h) {
            Handle handle = desk.getOpen(h);
            if (handle == null) {
                return fail(BAD_HANDLE);
            }
            return handle.file == null ? 1 : 0;
        }

        private int seek(int h, int number) {
            Handle handle = desk.getOpen(h);
            if (handle == null) {
                return fail(BAD_HANDLE);
            }
            HostFile file = handle.file;
            if (file == null || number < 0 || number > file.content.size()) {
                return fail(BAD_NUMBER);
            }
            handle.place = number;
            return 0;
        }

        private int length(int h) {
            Handle handle = desk.getOpen(h);
            if (handle == null) {
                return fail(BAD_HANDLE);
            }
            HostFile file = handle.file;
            return file == null ? 0 : file.content.size();
        }

        private int temporaryName(int place, int number, int n) {
            // An n below 0 stands for one beyond 2 to the 31st.
            if (number < 0 || number > 255 || n >= 0 && n < TEMPORARY_NAME_SIZE) {
                return fail(BAD_NUMBER);
            }
            if (!memory.hasArea(place, TEMPORARY_NAME_SIZE)) {
                return fail(BAD_PLACE);
            }
            memory.storeByte(place, 't');
            memory.storeByte(place + 1, 'm');
            memory.storeByte(place + 2, 'p');
            memory.storeByte(place + 3, '0' + number / 100);
            memory.storeByte(place + 4, '0' + number / 10 % 10);
            memory.storeByte(place + 5, '0' + number % 10);
            memory.storeByte(place + 6, 0);
            return 0;
        }

        private int remove(int place, int n) {
            int fault = bringName(firstName, place, n);
            if (fault != 0) {
                return fail(fault);
            }
            HostFile file = folder.find(firstName);
            if (file == null) {
                return fail(NO_SUCH_FILE);
            }
            if (desk.openOn(file) > 0) {
                return fail(BUSY);
            }
            folder.remove(file);
            return 0;
        }

        private int rename() {
            int fault = bringName(firstName, field(0), field(1));
            if (fault == 0) {
                fault = bringName(secondName, field(2), field(3));
            }
            if (fault != 0) {
                return fail(fault);
            }
            HostFile file = folder.find(firstName);
            if (file == null) {
                return fail(NO_SUCH_FILE);
            }
            if (desk.openOn(file) > 0) {
                return fail(BUSY);
            }
            HostFile other = folder.find(secondName);
            if (other != null && other != file) {
                return fail(NAME_TAKEN);
            }
            file.name.cut(0);
            file.name.append(secondName, 0, secondName.size());
            return 0;
        }

        private int tellCommand(int place, int n) {
            int size = command.size();
            if (n >= 0 && n < size + 1) {
                return fail(BAD_NUMBER);
            }
            if (!memory.hasArea(place, size + 1)) {
                return fail(BAD_PLACE);
            }
            bringBytes(command, 0, place, size);
            memory.storeByte(place + size, 0);
            memory.storeWord(block + 4, size);
            return 0;
        }

        private int tellHeap(int place) {
            if ((place & 3) != 0 || !memory.hasArea(place, 4 * HEAP.length)) {
                return fail(BAD_PLACE);
            }
            for (int i = 0; i < HEAP.length; i++) {
                memory.storeWord(place + 4 * i, HEAP[i]);
            }
            return 0;
        }

        private int exit(int reason, int codeIfWell) {
            guest.exit(reason == ENDED_WELL ? codeIfWell : 1);
            return 0;
        }

        private int tellSteps() {
            if ((block & 3) != 0 || !memory.hasArea(block, 8)) {
                return fail(BAD_PLACE);
            }
            memory.storeWord(block, (int) guest.steps);
            memory.storeWord(block + 4, (int) (guest.steps >>> 32));
            return 0;
        }
    }
}
