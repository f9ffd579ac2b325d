/** The 32 bits of instructions. */
final class Asm {
    static final int MSTATUS = 0x300, MSCRATCH = 0x340, MEPC = 0x341, MCAUSE = 0x342, MTVAL = 0x343;
    static final int PMPCFG0 = 0x3a0, PMPCFG2 = 0x3a2, PMPADDR0 = 0x3b0, MINSTRET = 0xb02, MHARTID = 0xf14;

    static final int ECALL = 0x73, EBREAK = 0x100073, MRET = 0x30200073, WFI = 0x10500073;
    static final int FENCE = 0x0ff0000f, FENCE_I = 0x100f, NOP = 0x13;

    private Asm() { }

    static int r(int opcode, int funct3, int funct7, int rd, int rs1, int rs2) {
        return funct7 << 25 | rs2 << 20 | rs1 << 15 | funct3 << 12 | rd << 7 | opcode;
    }

    static int i(int opcode, int funct3, int rd, int rs1, int imm) {
        return imm << 20 | rs1 << 15 | funct3 << 12 | rd << 7 | opcode;
    }

    static int s(int funct3, int rs1, int rs2, int imm) {
        return (imm >> 5) << 25 | rs2 << 20 | rs1 << 15 | funct3 << 12 | (imm & 31) << 7 | 0x23;
    }

    static int branch(int funct3, int rs1, int rs2, int offset) {
        return (offset >> 12 & 1) << 31 | (offset >> 5 & 63) << 25 | rs2 << 20 | rs1 << 15 | funct3 << 12
                | (offset >> 1 & 15) << 8 | (offset >> 11 & 1) << 7 | 0x63;
    }

    static int jal(int rd, int offset) {
        return (offset >> 20 & 1) << 31 | (offset >> 1 & 0x3ff) << 21 | (offset >> 11 & 1) << 20
                | (offset >> 12 & 0xff) << 12 | rd << 7 | 0x6f;
    }

    static int jalr(int rd, int rs1, int imm) {
        return i(0x67, 0, rd, rs1, imm);
    }

    static int lui(int rd, int upper) {
        return upper << 12 | rd << 7 | 0x37;
    }

    static int auipc(int rd, int upper) {
        return upper << 12 | rd << 7 | 0x17;
    }

    static int addi(int rd, int rs1, int imm) {
        return i(0x13, 0, rd, rs1, imm);
    }

    static int addiw(int rd, int rs1, int imm) {
        return i(0x1b, 0, rd, rs1, imm);
    }

    static int slli(int rd, int rs1, int shift) {
        return i(0x13, 1, rd, rs1, shift);
    }

    /** kind: 0 LB, 1 LH, 2 LW, 3 LD, 4 LBU, 5 LHU, 6 LWU. */
    static int load(int kind, int rd, int rs1, int imm) {
        return i(0x03, kind, rd, rs1, imm);
    }

    static int ld(int rd, int rs1, int imm) {
        return load(3, rd, rs1, imm);
    }

    static int sd(int rs2, int rs1, int imm) {
        return s(3, rs1, rs2, imm);
    }

    /** kind: 1 CSRRW, 2 CSRRS, 3 CSRRC, 5 CSRRWI, 6 CSRRSI, 7 CSRRCI. */
    static int csr(int kind, int rd, int number, int source) {
        return i(0x73, kind, rd, source, number);
    }

    static int csrw(int number, int rs1) {
        return csr(1, 0, number, rs1);
    }

    static int csrr(int rd, int number) {
        return csr(2, rd, number, 0);
    }
}
