/** Term 1 and promises 10, 11: the instructions, the TRAPS and run. */
public final class GuestTest {
    private static final Check check = new Check("GuestTest");
    private static final int LEAST = Integer.MIN_VALUE;

    private GuestTest() {
    }

    public static void main(String[] args) {
        operations();
        multiplications();
        divisions();
        numbers();
        noInstructions();
        loads();
        stores();
        accessTraps();
        branches();
        jumps();
        codeTraps();
        breaks();
        registerZero();
        runs();
        ownCodeChanged();
        check.finish();
    }

    /** One word is done at place 64 with registers 1 and 2 as told. */
    private static Bench one(int word, int a, int b) {
        Bench bench = new Bench();
        bench.words(64, word);
        bench.x.set(1, a);
        bench.x.set(2, b);
        bench.x.set(3, 77);
        bench.x.set(32, 64);
        check.same("run(1)", bench.x.run(1), 1);
        return bench;
    }

    private static void gives(String what, int word, int a, int b, int due) {
        Bench bench = one(word, a, b);
        check.same(what, bench.x.register(3), due);
        check.same(what + ": PC", bench.x.register(32), 68);
        check.same(what + ": state", bench.x.state(), 0);
    }

    private static void traps(String what, int word, int a, int b, int due) {
        Bench bench = one(word, a, b);
        check.same(what + ": TRAP", bench.x.look(0), due);
        check.same(what + ": state", bench.x.state(), 2);
        check.same(what + ": PC stays", bench.x.register(32), 64);
        check.same(what + ": no register is set", bench.x.register(3), 77);
        check.same(what + ": a STEP all the same", bench.x.look(3), 1);
    }

    private static void leads(String what, int word, int a, int b, int due) {
        Bench bench = one(word, a, b);
        check.same(what + ": PC", bench.x.register(32), due);
        check.same(what + ": state", bench.x.state(), 0);
    }

    private static void operations() {
        gives("ADD", Rv.op(0, 0, 3, 1, 2), Integer.MAX_VALUE, 2, LEAST + 1);
        gives("SUB", Rv.op(0, 32, 3, 1, 2), 5, 7, -2);
        gives("SLL", Rv.op(1, 0, 3, 1, 2), 3, 33, 6);
        gives("SLT", Rv.op(2, 0, 3, 1, 2), -1, 0, 1);
        gives("SLT not", Rv.op(2, 0, 3, 1, 2), 0, -1, 0);
        gives("SLT of the same", Rv.op(2, 0, 3, 1, 2), 4, 4, 0);
        gives("SLTU of the same", Rv.op(3, 0, 3, 1, 2), 4, 4, 0);
        gives("SLTU", Rv.op(3, 0, 3, 1, 2), 0, -1, 1);
        gives("SLTU not", Rv.op(3, 0, 3, 1, 2), -1, 0, 0);
        gives("XOR", Rv.op(4, 0, 3, 1, 2), 12, 10, 6);
        gives("SRL", Rv.op(5, 0, 3, 1, 2), -8, 32 + 1, 0x7FFFFFFC);
        gives("SRA", Rv.op(5, 32, 3, 1, 2), -8, 32 + 1, -4);
        gives("OR", Rv.op(6, 0, 3, 1, 2), 12, 10, 14);
        gives("AND", Rv.op(7, 0, 3, 1, 2), 12, 10, 8);
        gives("LUI", Rv.lui(3, 0xFFFFF), 0, 0, -4096);
        gives("AUIPC", Rv.auipc(3, 0x80000), 0, 0, LEAST + 64);
        gives("AUIPC of a small number", Rv.auipc(3, 1), 0, 0, 4096 + 64);
        gives("FENCE", 0x0FF0000F, 0, 0, 77);
        gives("FENCE with all else", 0xFFFF8F8F, 0, 0, 77);
        gives("FENCE.I", 0x0000100F, 0, 0, 77);
        gives("FENCE.I to a register", 0x0000118F, 0, 0, 77);
    }

    private static void multiplications() {
        gives("MUL", Rv.op(0, 1, 3, 1, 2), 0x10001, 0x10001, 0x20001);
        gives("MULH", Rv.op(1, 1, 3, 1, 2), -1, -1, 0);
        gives("MULH least", Rv.op(1, 1, 3, 1, 2), LEAST, LEAST, 0x40000000);
        gives("MULH of one below 0", Rv.op(1, 1, 3, 1, 2), -2, 3, -1);
        gives("MULHSU", Rv.op(2, 1, 3, 1, 2), -1, -1, -1);
        gives("MULHSU least", Rv.op(2, 1, 3, 1, 2), LEAST, -1, LEAST);
        gives("MULHSU without sign", Rv.op(2, 1, 3, 1, 2), 2, -1, 1);
        gives("MULHU", Rv.op(3, 1, 3, 1, 2), -1, -1, -2);
        gives("MULHU least", Rv.op(3, 1, 3, 1, 2), LEAST, 4, 2);
    }

    private static void divisions() {
        gives("DIV", Rv.op(4, 1, 3, 1, 2), -7, 2, -3);
        gives("DIV by 0", Rv.op(4, 1, 3, 1, 2), 7, 0, -1);
        gives("DIV least", Rv.op(4, 1, 3, 1, 2), LEAST, -1, LEAST);
        gives("DIVU", Rv.op(5, 1, 3, 1, 2), -7, 2, 0x7FFFFFFC);
        gives("DIVU by 0", Rv.op(5, 1, 3, 1, 2), 7, 0, -1);
        gives("DIVU of the least", Rv.op(5, 1, 3, 1, 2), LEAST, -1, 0);
        gives("REM", Rv.op(6, 1, 3, 1, 2), -7, 2, -1);
        gives("REM by less", Rv.op(6, 1, 3, 1, 2), 7, -2, 1);
        gives("REM by 0", Rv.op(6, 1, 3, 1, 2), -7, 0, -7);
        gives("REM least", Rv.op(6, 1, 3, 1, 2), LEAST, -1, 0);
        gives("REMU", Rv.op(7, 1, 3, 1, 2), -7, 10, 9);
        gives("REMU by 0", Rv.op(7, 1, 3, 1, 2), -7, 0, -7);
        gives("REMU of the least", Rv.op(7, 1, 3, 1, 2), LEAST, -1, LEAST);
    }

    private static void numbers() {
        gives("ADDI", Rv.addi(3, 1, -2048), 1, 0, -2047);
        gives("SLTI", Rv.opImm(2, 3, 1, -1), -2, 0, 1);
        gives("SLTIU", Rv.opImm(3, 3, 1, -1), 5, 0, 1);
        gives("SLTIU not", Rv.opImm(3, 3, 1, 5), -1, 0, 0);
        gives("XORI", Rv.opImm(4, 3, 1, -1), 5, 0, -6);
        gives("ORI", Rv.opImm(6, 3, 1, 0x7F0), 15, 0, 0x7FF);
        gives("ANDI", Rv.opImm(7, 3, 1, -16), 31, 0, 16);
        gives("SLLI", Rv.opImm(1, 3, 1, 31), 3, 0, LEAST);
        gives("SRLI", Rv.opImm(5, 3, 1, 31), LEAST, 0, 1);
        gives("SRAI", Rv.opImm(5, 3, 1, 0x400 | 31), LEAST, 0, -1);
    }

    private static void noInstructions() {
        for (int f7 = 0; f7 < 128; f7++) {
            for (int f3 = 0; f3 < 8; f3++) {
                boolean known = f7 == 0 || f7 == 1 || f7 == 32 && (f3 == 0 || f3 == 5);
                if (!known) {
                    traps("OP " + f3 + " " + f7, Rv.op(f3, f7, 3, 1, 2), 1, 1, 3);
                }
            }
            if (f7 != 0) {
                traps("SLLI " + f7, Rv.opImm(1, 3, 1, f7 << 5), 1, 1, 3);
            }
            if (f7 != 0 && f7 != 32) {
                traps("SRI " + f7, Rv.opImm(5, 3, 1, f7 << 5), 1, 1, 3);
            }
        }
        for (int f3 = 1; f3 < 8; f3++) {
            traps("JALR " + f3, Rv.i(0x67, f3, 3, 1, 0), 64, 0, 3);
            traps("SYSTEM " + f3, Rv.i(0x73, f3, 3, 1, 0), 64, 0, 3);
        }
        for (int f3 = 2; f3 < 8; f3++) {
            traps("FENCE " + f3, Rv.i(0x0F, f3, 3, 1, 0), 64, 0, 3);
        }
        traps("a load of 64 bits", Rv.load(3, 3, 1, 0), 1, 0, 3);
        traps("a load of kind 6", Rv.load(6, 3, 1, 0), 1, 0, 3);
        traps("a load of kind 7", Rv.load(7, 3, 1, 0), 1, 0, 3);
        for (int f3 = 3; f3 < 8; f3++) {
            traps("a store of kind " + f3, Rv.store(f3, 3, 1, 0), 1, 0, 3);
        }
        traps("a branch of kind 2", Rv.branch(2, 1, 2, 8), 1, 1, 3);
        traps("a branch of kind 3", Rv.branch(3, 1, 2, 8), 1, 1, 3);
        traps("ECALL", Rv.ECALL, 0, 0, 4);
        traps("EBREAK alone", Rv.EBREAK, 0, 0, 5);
        traps("MRET", 0x30200073, 0, 0, 3);
        traps("ECALL to a register", Rv.ECALL | 3 << 7, 0, 0, 3);
        traps("EBREAK to a register", Rv.EBREAK | 3 << 7, 0, 0, 3);
        for (int opcode = 0; opcode < 128; opcode++) {
            boolean known = "03 0f 13 17 23 33 37 63 67 6f 73 ".contains(String.format("%02x ", opcode));
            if (!known) {
                traps("opcode " + opcode, opcode | 3 << 7, 0, 0, 3);
            }
        }
        traps("all 1", -1, 0, 0, 3);
    }

    private static void loads() {
        Bench b = new Bench();
        b.words(1000, 0x80FF7F01, 0x12345678);
        b.words(0, Rv.load(0, 5, 1, 3), Rv.load(4, 6, 1, 3), Rv.load(1, 7, 1, 2), Rv.load(5, 8, 1, 2),
                Rv.load(2, 9, 1, 4), Rv.load(0, 12, 1, 1), Rv.load(2, 13, 2, -4), Rv.load(0, 14, 3, 2047));
        b.x.set(1, 1000);
        b.x.set(2, 1008);
        b.x.set(3, 16383 - 2047);
        b.bytes(16383, "\200");
        check.same("run", b.x.run(8), 8);
        check.same("LB", b.x.register(5), -128);
        check.same("LBU", b.x.register(6), 128);
        check.same("LH", b.x.register(7), (short) 0x80FF);
        check.same("LHU", b.x.register(8), 0x80FF);
        check.same("LW", b.x.register(9), 0x12345678);
        check.same("LB above 0", b.x.register(12), 127);
        check.same("LW by less", b.x.register(13), 0x12345678);
        check.same("LB at the end", b.x.register(14), -128);
        b.words(0, Rv.load(5, 5, 1, 0));
        b.x.set(1, 16382);
        b.x.set(32, 0);
        b.x.run(1);
        check.same("LHU at the end", b.x.register(5), 0x8000);
    }

    private static void stores() {
        Bench b = new Bench();
        b.words(0, Rv.store(0, 2, 1, 1), Rv.store(1, 2, 1, 6), Rv.store(2, 2, 1, 8), Rv.store(2, 2, 1, -4),
                Rv.store(2, 2, 3, 0), Rv.store(2, 2, 1, 1364), Rv.store(2, 2, 4, -2048), Rv.store(0, 2, 1, 2047));
        b.x.set(4, 6000);
        b.x.set(1, 1000);
        b.x.set(2, 0x89ABCDEF);
        b.x.set(3, 16380);
        check.same("run", b.x.run(8), 8);
        check.same("SW by 1,364", b.word(2364), 0x89ABCDEF);
        check.same("SW by the least", b.word(3952), 0x89ABCDEF);
        check.same("SB by the most", b.x.peek(3047), 0xEF);
        check.same("SB", b.word(1000), 0xEF00);
        check.same("SH", b.word(1004), 0xCDEF0000);
        check.same("SW", b.word(1008), 0x89ABCDEF);
        check.same("SW by less", b.word(996), 0x89ABCDEF);
        check.same("SW at the end", b.word(16380), 0x89ABCDEF);
    }

    private static void accessTraps() {
        traps("LW crooked", Rv.load(2, 3, 1, 2), 1000, 0, 6);
        traps("LH crooked", Rv.load(1, 3, 1, 1), 1000, 0, 6);
        traps("LHU crooked", Rv.load(5, 3, 1, 1), 1000, 0, 6);
        traps("LW outside", Rv.load(2, 3, 1, 0), 16384, 0, 7);
        traps("LB outside", Rv.load(0, 3, 1, 0), 16384, 0, 7);
        traps("LBU below 0", Rv.load(4, 3, 1, -1), 0, 0, 7);
        traps("LW crooked and outside", Rv.load(2, 3, 1, 1), 16384, 0, 6);
        traps("LH at the top", Rv.load(1, 3, 1, 0), -2, 0, 7);
        traps("LW to register 0", Rv.load(2, 0, 1, 0), 16384, 0, 7);
        traps("SW crooked", Rv.store(2, 2, 1, 2), 1000, 0, 8);
        traps("SH crooked", Rv.store(1, 2, 1, 1), 1000, 0, 8);
        traps("SW outside", Rv.store(2, 2, 1, 0), 16384, 0, 9);
        traps("SB outside", Rv.store(0, 2, 1, 0), LEAST, 0, 9);
        traps("SH crooked and outside", Rv.store(1, 2, 1, 0), 16385, 0, 8);
        leads("LB round to 0", Rv.load(0, 3, 1, 1), -1, 0, 68);
    }

    private static void branches() {
        int[][] kinds = {{0, 5, 5, 1}, {0, 5, 6, 0}, {1, 5, 6, 1}, {1, 5, 5, 0}, {4, -1, 0, 1}, {4, 0, -1, 0},
            {4, 3, 3, 0}, {5, 0, -1, 1}, {5, 3, 3, 1}, {5, -1, 0, 0}, {6, 0, -1, 1}, {6, -1, 0, 0}, {6, 3, 3, 0},
            {7, -1, 0, 1}, {7, 3, 3, 1}, {7, 0, -1, 0}};
        for (int[] k : kinds) {
            leads("branch " + k[0], Rv.branch(k[0], 1, 2, 2048 + 32), k[1], k[2], k[3] == 1 ? 64 + 2080 : 68);
            leads("branch back " + k[0], Rv.branch(k[0], 1, 2, -64), k[1], k[2], k[3] == 1 ? 0 : 68);
        }
        for (int r = 0; r < 32; r++) {
            leads("a branch by register " + r, Rv.branch(0, r, r, 1364), 1, 1, 64 + 1364);
        }
        leads("a branch below 0", Rv.branch(0, 1, 2, -4096), 1, 1, 64 - 4096);
        leads("a long branch", Rv.branch(0, 1, 2, 4092), 1, 1, 64 + 4092);
        traps("a crooked branch", Rv.branch(0, 1, 2, 6), 1, 1, 1);
        leads("a crooked branch not taken", Rv.branch(0, 1, 2, 6), 1, 2, 68);
    }

    private static void jumps() {
        int[] offsets = {8, -64, 0xFFFFC, -0x100000, 0x800, 0x1000, 0x7FC, 0x55554};
        for (int offset : offsets) {
            Bench b = one(Rv.jal(3, offset), 0, 0);
            check.same("JAL " + offset, b.x.register(32), 64 + offset);
            check.same("JAL's register", b.x.register(3), 68);
            for (int rd = 0; rd < 32; rd++) {
                leads("JAL to register " + rd, Rv.jal(rd, offset), 0, 0, 64 + offset);
            }
        }
        traps("a crooked JAL", Rv.jal(3, 6), 0, 0, 1);
        Bench b = one(Rv.jalr(3, 1, -7), 1000 + 8, 0);
        check.same("JALR, its lowest bit lost", b.x.register(32), 1000);
        check.same("JALR's register", b.x.register(3), 68);
        traps("a crooked JALR", Rv.jalr(3, 1, 2), 1000, 0, 1);
        traps("a crooked JALR of 3", Rv.jalr(3, 1, 3), 1000, 0, 1);
        leads("JALR outside", Rv.jalr(3, 1, 0), -8, 0, -8);
        Bench same = new Bench();
        same.words(64, Rv.jalr(1, 1, 4));
        same.x.set(1, 2000);
        same.x.set(32, 64);
        same.x.run(1);
        check.same("JALR by its own register", same.x.register(32), 2004);
        check.same("which is set", same.x.register(1), 68);
    }

    private static void codeTraps() {
        int[][] places = {{2, 1}, {16384, 2}, {16386, 1}, {-4, 2}, {-1, 1}, {LEAST, 2}};
        for (int[] p : places) {
            Bench b = new Bench();
            b.x.set(32, p[0]);
            check.same("PC " + p[0], b.x.run(4), 1);
            check.same("TRAP at " + p[0], b.x.look(0), p[1]);
            check.same("PC stays at " + p[0], b.x.register(32), p[0]);
        }
        Bench b = new Bench();
        b.words(16380, Rv.addi(3, 0, 9));
        b.x.set(32, 16380);
        check.same("the last word", b.x.run(4), 2);
        check.same("it is done", b.x.register(3), 9);
        check.same("behind it", b.x.look(0), 2);
        check.same("PC behind it", b.x.register(32), 16384);
    }

    /** EBREAK at a place with words round it; answers the TRAP. */
    private static int trapOfBreak(int place, int ahead, int behind) {
        Bench b = new Bench();
        if (place >= 4) {
            b.words(place - 4, ahead);
        }
        b.words(place, Rv.EBREAK);
        if (place + 8 <= 16384) {
            b.words(place + 4, behind);
        }
        b.x.set(10, 49);
        b.x.set(32, place);
        check.same("EBREAK's STEP", b.x.run(1), 1);
        boolean isCall = b.x.look(4) == 1;
        check.same("PC", b.x.register(32), isCall ? place + 8 : place);
        check.same("register 10", b.x.register(10), isCall ? 1000 : 49);
        return b.x.look(0);
    }

    private static void breaks() {
        check.same("a CALL", trapOfBreak(256, Rv.MARK_AHEAD, Rv.MARK_BEHIND), 0);
        check.same("at 4", trapOfBreak(4, Rv.MARK_AHEAD, Rv.MARK_BEHIND), 0);
        check.same("at the end", trapOfBreak(16376, Rv.MARK_AHEAD, Rv.MARK_BEHIND), 0);
        check.same("at 0", trapOfBreak(0, Rv.MARK_AHEAD, Rv.MARK_BEHIND), 5);
        check.same("without room behind", trapOfBreak(16380, Rv.MARK_AHEAD, Rv.MARK_BEHIND), 5);
        check.same("another word ahead", trapOfBreak(256, Rv.MARK_AHEAD + 128, Rv.MARK_BEHIND), 5);
        check.same("another word behind", trapOfBreak(256, Rv.MARK_AHEAD, Rv.MARK_BEHIND + 128), 5);
        check.same("the marks as decimals", Rv.MARK_AHEAD, 32509971);
        check.same("the mark behind as a decimal", Rv.MARK_BEHIND, 1081102355);
    }

    private static void registerZero() {
        int[] words = {Rv.addi(0, 0, 5), Rv.lui(0, 5), Rv.auipc(0, 5), Rv.op(0, 1, 0, 1, 2), Rv.load(2, 0, 1, 0),
            Rv.jal(0, 4), Rv.jalr(0, 4, 0), Rv.op(4, 1, 0, 1, 2)};
        Bench b = new Bench();
        b.words(0, words);
        b.x.set(1, 8);
        b.x.set(4, 28);
        check.same("run", b.x.run(words.length), words.length);
        check.same("register 0", b.x.register(0), 0);
        check.same("RUNS", b.x.state(), 0);
    }

    private static void runs() {
        Bench b = new Bench();
        b.words(0, Rv.addi(1, 1, 1), Rv.jal(0, -4));
        check.same("run(0)", b.x.run(0), 0);
        check.same("no STEP", b.x.look(3), 0);
        check.same("run(5000)", b.x.run(5000), 5000);
        check.same("rounds", b.x.register(1), 2500);
        check.same("run(1)", b.x.run(1), 1);
        check.same("STEPS", b.x.look(3), 5001);
        check.fails("run(5001)", IllegalArgumentException.class, () -> b.x.run(5001));
        check.fails("run(-1)", IllegalArgumentException.class, () -> b.x.run(-1));
        check.fails("run(least)", IllegalArgumentException.class, () -> b.x.run(LEAST));
        check.same("nothing is done", b.x.look(3), 5001);
        b.x.set(32, 6);
        check.same("fewer STEPS by a TRAP", b.x.run(100), 1);
        check.same("STOPPED", b.x.state(), 2);
        check.same("none of one that is STOPPED", b.x.run(100), 0);
        check.fails("run(5001) of one that is STOPPED", IllegalArgumentException.class, () -> b.x.run(5001));
        b.x.set(32, 0);
        check.same("STOPPED it stays", b.x.run(100), 0);
        check.same("its TRAP too", b.x.look(0), 1);
        check.same("STEPS at last", b.x.look(3), 5002);
    }

    private static void ownCodeChanged() {
        Bench b = new Bench();
        b.words(0, Rv.store(2, 2, 0, 4), Rv.addi(3, 0, 1));
        b.x.set(2, Rv.addi(3, 0, 2));
        check.same("run", b.x.run(2), 2);
        check.same("the new word is done", b.x.register(3), 2);
    }
}
