/** Words of RV32IM instructions. */
final class Rv {
    static final int MARK_AHEAD = 0x01f01013;
    static final int EBREAK = 0x00100073;
    static final int MARK_BEHIND = 0x40705013;
    static final int ECALL = 0x00000073;

    private Rv() {
    }

    static int r(int opcode, int f3, int f7, int rd, int rs1, int rs2) {
        return f7 << 25 | rs2 << 20 | rs1 << 15 | f3 << 12 | rd << 7 | opcode;
    }

    static int i(int opcode, int f3, int rd, int rs1, int imm) {
        return imm << 20 | rs1 << 15 | f3 << 12 | rd << 7 | opcode;
    }

    static int op(int f3, int f7, int rd, int rs1, int rs2) {
        return r(0x33, f3, f7, rd, rs1, rs2);
    }

    static int opImm(int f3, int rd, int rs1, int imm) {
        return i(0x13, f3, rd, rs1, imm);
    }

    static int addi(int rd, int rs1, int imm) {
        return opImm(0, rd, rs1, imm);
    }

    static int load(int f3, int rd, int rs1, int imm) {
        return i(0x03, f3, rd, rs1, imm);
    }

    static int store(int f3, int rs2, int rs1, int imm) {
        return (imm >> 5 & 127) << 25 | rs2 << 20 | rs1 << 15 | f3 << 12 | (imm & 31) << 7 | 0x23;
    }

    static int branch(int f3, int rs1, int rs2, int offset) {
        return (offset >> 12 & 1) << 31 | (offset >> 5 & 63) << 25 | rs2 << 20 | rs1 << 15 | f3 << 12
                | (offset >> 1 & 15) << 8 | (offset >> 11 & 1) << 7 | 0x63;
    }

    static int jal(int rd, int offset) {
        return (offset >> 20 & 1) << 31 | (offset >> 1 & 1023) << 21 | (offset >> 11 & 1) << 20
                | (offset >> 12 & 255) << 12 | rd << 7 | 0x6F;
    }

    static int jalr(int rd, int rs1, int imm) {
        return i(0x67, 0, rd, rs1, imm);
    }

    static int lui(int rd, int upper) {
        return upper << 12 | rd << 7 | 0x37;
    }

    static int auipc(int rd, int upper) {
        return upper << 12 | rd << 7 | 0x17;
    }
}
