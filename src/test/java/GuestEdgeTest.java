/** Term 1, sentence by sentence: its boundary cases, and what a TRAP leaves as it was. */
public final class GuestEdgeTest {
    private static final Check check = new Check("GuestEdgeTest");
    private static final int LEAST = Integer.MIN_VALUE;
    private static final int MOST = Integer.MAX_VALUE;
    private static final int PLACE = 64;
    private static final int[] NUMBERS = {0, 1, -1, 2, -2, 31, 32, 33, 1000, -1000, MOST, MOST - 1, LEAST, LEAST + 1};
    private static final int[] PLACES = {0, 1, 2, 3, 4, 5, 6, 7, 16376, 16377, 16378, 16379, 16380, 16381, 16382, 16383,
        16384, 16385, 16386, 16387, 16388, 32768, MOST - 3, MOST - 1, MOST, LEAST, LEAST + 1, LEAST + 2, -16384, -8, -7,
        -6, -5, -4, -3, -2, -1};
    private static final int[] OFFSETS = {0, 1, -1, 4, 2047, -2048};

    private GuestEdgeTest() {
    }

    public static void main(String[] args) {
        memory();
        registers();
        crookedCode();
        codeOutside();
        noInstruction();
        environmentCall();
        breaks();
        loads();
        stores();
        jumps();
        branches();
        behindStep();
        divisions();
        shifts();
        comparisons();
        wordsOfTheSystem();
        check.finish();
    }

    /** A guest with all registers set, and one word at its PC. */
    private static Bench about(int word, int first, int second) {
        Bench b = new Bench();
        b.words(PLACE, word);
        for (int r = 3; r < 32; r++) {
            b.x.set(r, r * 0x01010101);
        }
        b.x.set(1, first);
        b.x.set(2, second);
        b.x.set(32, PLACE);
        return b;
    }

    /** The next STEP is a TRAP, counts, and changes nothing else. */
    private static void traps(String what, Bench b, int due) {
        Whole before = new Whole(b.x);
        int steps = b.x.look(3);
        check.same(what + ": run", b.x.run(3), 1);
        check.same(what + ": TRAP", b.x.look(0), due);
        check.same(what + ": state", b.x.state(), 2);
        check.same(what + ": STEPS", b.x.look(3), steps + 1);
        check.same(what + ": what else changed", new Whole(b.x).changedSince(before, "state", "look 0", "look 3"), "");
    }

    private static void isFine(String what, Bench b, int pc) {
        check.same(what + ": run", b.x.run(1), 1);
        check.same(what + ": TRAP", b.x.look(0), 0);
        check.same(what + ": state", b.x.state(), 0);
        check.same(what + ": PC", b.x.register(32), pc);
    }

    private static boolean isInMemory(int place, int size) {
        return Integer.toUnsignedLong(place) + size <= 16384;
    }

    private static void memory() {
        check.about("16,384 bytes of MEMORY (places 0 to 16383, all 0 at first)");
        Lasting x = new Lasting();
        for (int place = 0; place < 16384; place++) {
            check.same("peek(" + place + ")", x.peek(place), 0);
        }
        check.same("peek(16384)", x.peek(16384), -1);
        check.about("WORDS lie with their lowest byte first");
        Bench b = about(Rv.store(2, 2, 1, 0), 16380, 0x04030201);
        isFine("SW", b, PLACE + 4);
        check.same("its bytes", b.memory(16380, 4), "\1\2\3\4");
    }

    private static void registers() {
        check.about("registers 0 to 31 of 32 bits (0 at first; register 0 is always 0) and PC (0 at first)");
        Bench b = new Bench();
        for (int r = 0; r <= 32; r++) {
            check.same("register " + r, b.x.register(r), 0);
        }
        int[] words = {Rv.op(0, 0, 0, 1, 2), Rv.opImm(0, 0, 1, 5), Rv.lui(0, 1), Rv.auipc(0, 1), Rv.load(2, 0, 1, 0),
            Rv.jal(0, 4), Rv.jalr(0, 1, 0), Rv.op(0, 1, 0, 1, 2), Rv.op(4, 1, 0, 1, 2)};
        for (int word : words) {
            Bench zero = about(word, PLACE, 7);
            check.same("run", zero.x.run(1), 1);
            check.same("RUNS", zero.x.state(), 0);
            check.same("register 0", zero.x.register(0), 0);
        }
        Bench read = about(Rv.op(0, 0, 3, 0, 0), 5, 5);
        isFine("ADD of register 0", read, PLACE + 4);
        check.same("register 0 read", read.x.register(3), 0);
    }

    private static void crookedCode() {
        check.about("TRAP 1, if PC is no multiple of 4");
        int[] places = {1, 2, 3, 5, 16381, 16382, 16383, 16385, MOST, MOST - 1, LEAST + 1, LEAST + 2, -1, -2, -3};
        for (int pc : places) {
            Bench b = about(0, 1, 2);
            b.x.set(32, pc);
            traps("PC " + pc, b, 1);
        }
    }

    private static void codeOutside() {
        check.about("2, if PC to PC + 3 are not in the MEMORY (each place from 0 to 4294967295)");
        int[] places = {16384, 16388, 65536, MOST - 3, LEAST, -16384, -4};
        for (int pc : places) {
            Bench b = about(0, 1, 2);
            b.x.set(32, pc);
            traps("PC " + pc, b, 2);
        }
        int[] inside = {0, 4, 16376, 16380};
        for (int pc : inside) {
            Bench b = about(0, 1, 2);
            b.words(pc, Rv.addi(3, 0, 1));
            b.x.set(32, pc);
            isFine("PC " + pc, b, pc + 4);
        }
    }

    private static void noInstruction() {
        check.about("what is none of these: TRAP 3");
        int[] words = {0, -1, 3 << 12 | 3, 6 << 12 | 3, 3 << 12 | 0x23, 2 << 12 | 0x63, 3 << 12 | 0x63, 1 << 12 | 0x67,
            2 << 12 | 0x0F, 0x30200073, 0x10500073, 0x00001073, 0x0000006B, 0x00000012, 0x00000001};
        for (int word : words) {
            traps("word " + word, about(word, 1000, 1000), 3);
        }
        check.about("shifts by a number have 0000000 or 0100000 (right, with sign) as their highest seven bits");
        int[] tops = {1, 2, 16, 31, 32, 33, 48, 64, 96, 127};
        for (int top : tops) {
            traps("SLLI " + top, about(Rv.opImm(1, 3, 1, top << 5), 1, 1), 3);
            if (top != 32) {
                traps("SRLI " + top, about(Rv.opImm(5, 3, 1, top << 5), 1, 1), 3);
            }
        }
        check.about("by opcode, funct3, funct7 as published");
        for (int f3 = 0; f3 < 8; f3++) {
            int[] others = {2, 31, 33, 64, 65, 127};
            for (int f7 : others) {
                traps("OP " + f3 + " " + f7, about(Rv.op(f3, f7, 3, 1, 2), 1, 1), 3);
            }
            if (f3 != 0 && f3 != 5) {
                traps("OP " + f3 + " 32", about(Rv.op(f3, 32, 3, 1, 2), 1, 1), 3);
            }
        }
        check.about("FENCE and FENCE.I by opcode 0001111 and funct3 0 and 1 alone");
        for (int f3 = 0; f3 < 8; f3++) {
            Bench b = about(0xABCF8F8F & ~0x7000 | f3 << 12, 1, 1);
            if (f3 > 1) {
                traps("FENCE " + f3, b, 3);
            } else {
                Whole before = new Whole(b.x);
                isFine("FENCE " + f3, b, PLACE + 4);
                check.same("what else changed", new Whole(b.x).changedSince(before, "register 32", "look 3"), "");
            }
        }
    }

    private static void environmentCall() {
        check.about("ECALL: TRAP 4");
        traps("ECALL", about(Rv.ECALL, 1, 2), 4);
        Bench b = about(Rv.ECALL, 1, 2);
        b.words(PLACE - 4, Rv.MARK_AHEAD, Rv.ECALL, Rv.MARK_BEHIND);
        traps("ECALL between the marks", b, 4);
    }

    /** EBREAK at a place, the WORDS round it as told where the MEMORY has them. */
    private static Bench breakAt(int place, int ahead, int behind) {
        Bench b = about(0, 1, 2);
        if (place >= 4) {
            b.words(place - 4, ahead);
        }
        b.words(place, Rv.EBREAK);
        if (place <= 16376) {
            b.words(place + 4, behind);
        }
        b.x.set(10, 49);
        b.x.set(32, place);
        return b;
    }

    private static void breaks() {
        check.about("EBREAK: a CALL, if PC is 4 or more");
        isFine("at 4", breakAt(4, Rv.MARK_AHEAD, Rv.MARK_BEHIND), 12);
        traps("at 0", breakAt(0, Rv.MARK_AHEAD, Rv.MARK_BEHIND), 5);
        Bench round = breakAt(0, Rv.MARK_AHEAD, Rv.MARK_BEHIND);
        round.words(16380, Rv.MARK_AHEAD);
        traps("at 0, the mark at the end of the MEMORY", round, 5);
        check.about("the WORD at PC - 4 is 32509971 (01f01013)");
        check.same("the mark", 32509971, Rv.MARK_AHEAD);
        for (int bit = 0; bit < 32; bit++) {
            traps("bit " + bit, breakAt(512, 32509971 ^ 1 << bit, 1081102355), 5);
        }
        check.about("that at PC + 4, which is in the MEMORY, 1081102355 (40705013)");
        check.same("the mark", 1081102355, Rv.MARK_BEHIND);
        for (int bit = 0; bit < 32; bit++) {
            traps("bit " + bit, breakAt(512, 32509971, 1081102355 ^ 1 << bit), 5);
        }
        isFine("the last place", breakAt(16376, 32509971, 1081102355), 16384);
        traps("no WORD behind", breakAt(16380, 32509971, 1081102355), 5);
        Bench start = breakAt(16380, 32509971, 1081102355);
        start.words(0, Rv.MARK_BEHIND);
        traps("the mark at the start of the MEMORY", start, 5);
        check.about("else TRAP 5");
        traps("alone", breakAt(512, 0, 0), 5);
        traps("the marks the other way round", breakAt(512, 1081102355, 32509971), 5);
    }

    private static void loads() {
        check.about("A load: TRAP 6, if its place is no multiple of its size; 7, if it is not all in the MEMORY");
        int[][] kinds = {{0, 1}, {1, 2}, {2, 4}, {4, 1}, {5, 2}};
        for (int[] kind : kinds) {
            for (int place : PLACES) {
                for (int offset : OFFSETS) {
                    String what = "load " + kind[0] + " at " + place + " by " + offset;
                    load(what, kind[0], kind[1], place, offset);
                }
            }
        }
    }

    private static void load(String what, int kind, int size, int place, int offset) {
        Bench b = about(Rv.load(kind, 3, 1, offset), place - offset, 0);
        b.words(0, 0x83828180, 0x87868584);
        b.words(16376, 0x93929190, 0x97969594);
        if (place % size != 0) {
            brief(what, b, 6);
        } else if (!isInMemory(place, size)) {
            brief(what, b, 7);
        } else {
            isFine(what, b, PLACE + 4);
            long due = 0;
            for (int i = size - 1; i >= 0; i--) {
                due = due << 8 | b.x.peek(place + i);
            }
            // Every byte there is above 127, so that a load with sign is below 0.
            due = kind < 2 ? due - (1L << 8 * size) : due;
            check.same(what, b.x.register(3), (int) due);
        }
    }

    /** A TRAP that sets no register; traps() asks for more, but takes longer. */
    private static void brief(String what, Bench b, int due) {
        check.same(what + ": run", b.x.run(1), 1);
        check.same(what + ": TRAP", b.x.look(0), due);
        check.same(what + ": register 3", b.x.register(3), 0x03030303);
        check.same(what + ": PC", b.x.register(32), PLACE);
    }

    private static void stores() {
        check.about("a store likewise 8, 9");
        for (int kind = 0; kind < 3; kind++) {
            int size = 1 << kind;
            for (int place : PLACES) {
                for (int offset : OFFSETS) {
                    Bench b = about(Rv.store(kind, 2, 1, offset), place - offset, 0xC4C3C2C1);
                    b.words(0, -1, -1);
                    b.words(16376, -1, -1);
                    String what = "store " + kind + " at " + place + " by " + offset;
                    store(what, b, size, place);
                }
            }
        }
        Bench low = about(Rv.store(2, 2, 1, 0), 2, 5);
        traps("a crooked store", low, 8);
        traps("a store outside", about(Rv.store(2, 2, 1, 0), 16384, 5), 9);
        traps("a store outside and crooked", about(Rv.store(1, 2, 1, 0), -1, 5), 8);
        traps("a crooked load", about(Rv.load(2, 3, 1, 0), 2, 5), 6);
        traps("a load outside", about(Rv.load(2, 3, 1, 0), 16384, 5), 7);
        traps("a load outside and crooked", about(Rv.load(1, 3, 1, 0), -1, 5), 6);
    }

    private static void store(String what, Bench b, int size, int place) {
        if (place % size != 0) {
            brief(what, b, 8);
        } else if (!isInMemory(place, size)) {
            brief(what, b, 9);
        } else {
            isFine(what, b, PLACE + 4);
        }
        boolean isDone = place % size == 0 && isInMemory(place, size);
        for (int i = 0; i < 16; i++) {
            int at = i < 8 ? i : 16376 + i - 8;
            boolean isStored = isDone && at >= place && at < place + size;
            check.same(what + ": byte " + at, b.x.peek(at), isStored ? 0xC1 + at - place : 255);
        }
    }

    private static void jumps() {
        check.about("A jump or a taken branch to what is no multiple of 4: TRAP 1 (no register is set by that)");
        int[] offsets = {2, -2, 6, -62, 0x7FE, 0x802, 0xFFFFE, -0xFFFFE};
        for (int offset : offsets) {
            traps("JAL " + offset, about(Rv.jal(3, offset), 0, 0), 1);
        }
        int[] bases = {0, 1000, 1001, 1002, 1003, MOST - 3, MOST, LEAST, -8, -3, -2, -1};
        for (int base : bases) {
            for (int offset : OFFSETS) {
                String what = "JALR " + base + " by " + offset;
                Bench b = about(Rv.jalr(3, 1, offset), base, 0);
                int target = base + offset & ~1;
                if (target % 4 != 0) {
                    brief(what, b, 1);
                } else {
                    isFine(what, b, target);
                    check.same(what + ": register 3", b.x.register(3), PLACE + 4);
                }
            }
        }
        traps("JALR", about(Rv.jalr(3, 1, 0), 1002, 0), 1);
        traps("JALR by its own register", about(Rv.jalr(1, 1, 1), 1002, 0), 1);
    }

    private static void branches() {
        check.about("a taken branch to what is no multiple of 4");
        int[][] taken = {{0, 5, 5}, {1, 5, 6}, {4, -1, 0}, {5, 0, -1}, {6, 0, -1}, {7, -1, 0}};
        int[][] left = {{0, 5, 6}, {1, 5, 5}, {4, 0, -1}, {5, -1, 0}, {6, -1, 0}, {7, 0, -1}};
        for (int i = 0; i < 6; i++) {
            int word = Rv.branch(taken[i][0], 1, 2, 10);
            traps("branch " + taken[i][0], about(word, taken[i][1], taken[i][2]), 1);
            isFine("not taken " + left[i][0], about(word, left[i][1], left[i][2]), PLACE + 4);
        }
    }

    private static void behindStep() {
        check.about("Behind a STEP without a TRAP PC is 4 more, or where a jump or branch leads, or, behind a CALL, 8");
        isFine("ADDI", about(Rv.addi(3, 0, 1), 0, 0), PLACE + 4);
        isFine("JAL to itself", about(Rv.jal(3, 0), 0, 0), PLACE);
        isFine("JAL below 0", about(Rv.jal(3, -128), 0, 0), -64);
        isFine("JAL outside", about(Rv.jal(3, 0x4000), 0, 0), 0x4000 + PLACE);
        isFine("a branch below 0", about(Rv.branch(0, 1, 2, -128), 1, 1), -64);
        isFine("JALR round to 0", about(Rv.jalr(3, 1, 4), -4, 0), 0);
        Bench outside = about(Rv.jal(3, 0x4000), 0, 0);
        isFine("JAL outside", outside, 0x4000 + PLACE);
        traps("and there", outside, 2);
        Bench call = breakAt(512, Rv.MARK_AHEAD, Rv.MARK_BEHIND);
        isFine("a CALL", call, 520);
        check.same("its answer", call.x.register(10), 1000);
        check.about("It RUNS, has EXITED, or is STOPPED by a TRAP");
        Bench stopped = about(Rv.ECALL, 0, 0);
        traps("ECALL", stopped, 4);
        Whole before = new Whole(stopped.x);
        check.same("no STEP more", stopped.x.run(5), 0);
        check.same("what changed", new Whole(stopped.x).changedSince(before), "");
    }

    private static void divisions() {
        check.about("by 0 DIV and DIVU give - 1, REM and REMU what was divided;"
                + " the least number by - 1 gives itself, and a rest of 0");
        for (int a : NUMBERS) {
            for (int b : NUMBERS) {
                int div = b == 0 ? -1 : (int) ((long) a / b);
                int rem = b == 0 ? a : (int) ((long) a % b);
                int divu = b == 0 ? -1 : Integer.divideUnsigned(a, b);
                int remu = b == 0 ? a : Integer.remainderUnsigned(a, b);
                int[] due = {div, divu, rem, remu};
                for (int kind = 0; kind < 4; kind++) {
                    gives("kind " + kind, Rv.op(4 + kind, 1, 3, 1, 2), a, b, due[kind]);
                }
            }
        }
    }

    private static void gives(String what, int word, int a, int b, int due) {
        Bench bench = about(word, a, b);
        isFine(what, bench, PLACE + 4);
        check.same(what + " of " + a + " and " + b, bench.x.register(3), due);
    }

    private static void shifts() {
        check.about("done as published: a shift by a register has its lowest five bits alone");
        for (int a : NUMBERS) {
            for (int b : NUMBERS) {
                int by = Math.floorMod(b, 32);
                gives("SLL", Rv.op(1, 0, 3, 1, 2), a, b, (int) ((long) a << by));
                gives("SRL", Rv.op(5, 0, 3, 1, 2), a, b, (int) (Integer.toUnsignedLong(a) >> by));
                gives("SRA", Rv.op(5, 32, 3, 1, 2), a, b, (int) ((long) a >> by));
            }
            for (int by = 0; by < 32; by++) {
                gives("SLLI", Rv.opImm(1, 3, 1, by), a, 0, (int) ((long) a << by));
                gives("SRLI", Rv.opImm(5, 3, 1, by), a, 0, (int) (Integer.toUnsignedLong(a) >> by));
                gives("SRAI", Rv.opImm(5, 3, 1, 1024 + by), a, 0, (int) ((long) a >> by));
            }
        }
    }

    private static void comparisons() {
        check.about("done as published: with and without sign");
        for (int a : NUMBERS) {
            for (int b : NUMBERS) {
                boolean less = a < b;
                boolean below = Integer.compareUnsigned(a, b) < 0;
                gives("SLT", Rv.op(2, 0, 3, 1, 2), a, b, less ? 1 : 0);
                gives("SLTU", Rv.op(3, 0, 3, 1, 2), a, b, below ? 1 : 0);
                boolean[] taken = {a == b, a != b, false, false, less, !less, below, !below};
                for (int kind = 0; kind < 8; kind++) {
                    if (kind != 2 && kind != 3) {
                        isFine("branch " + kind + " of " + a + " and " + b,
                                about(Rv.branch(kind, 1, 2, 400), a, b), taken[kind] ? PLACE + 400 : PLACE + 4);
                    }
                }
                long product = (long) a * b;
                gives("MUL", Rv.op(0, 1, 3, 1, 2), a, b, (int) product);
                gives("MULH", Rv.op(1, 1, 3, 1, 2), a, b, (int) (product >> 32));
                gives("MULHSU", Rv.op(2, 1, 3, 1, 2), a, b, (int) (a * Integer.toUnsignedLong(b) >> 32));
                gives("MULHU", Rv.op(3, 1, 3, 1, 2), a, b,
                        (int) (Integer.toUnsignedLong(a) * Integer.toUnsignedLong(b) >>> 32));
            }
        }
        int[] numbers = {0, 1, -1, 2047, -2048};
        for (int a : NUMBERS) {
            for (int n : numbers) {
                gives("ADDI", Rv.addi(3, 1, n), a, 0, a + n);
                gives("SLTI", Rv.opImm(2, 3, 1, n), a, 0, a < n ? 1 : 0);
                gives("SLTIU", Rv.opImm(3, 3, 1, n), a, 0, Integer.compareUnsigned(a, n) < 0 ? 1 : 0);
            }
        }
    }

    private static void wordsOfTheSystem() {
        check.about("ECALL and EBREAK are the WORDS 115 and 1048691");
        traps("115", about(115, 0, 0), 4);
        traps("1048691", about(1048691, 0, 0), 5);
        for (int bit = 7; bit < 32; bit++) {
            if (bit != 20) {
                traps("115 and bit " + bit, about(115 | 1 << bit, 0, 0), 3);
            }
            Bench b = breakAt(512, Rv.MARK_AHEAD, Rv.MARK_BEHIND);
            b.words(512, 1048691 ^ 1 << bit);
            traps("1048691 and bit " + bit, b, bit == 20 ? 4 : 3);
        }
    }
}
