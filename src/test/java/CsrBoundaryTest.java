/** The boundary cases that the document's section I names of CSRs, of FAULTS in mode M and of MRET, a method for each sentence. */
public final class CsrBoundaryTest {
    private static final int[] WRITABLE = {0x300, 0x340, 0x341, 0x342, 0x343, 0x3a0, 0x3a2, 0x3b0, 0x3b7, 0x3b8, 0x3bf};
    private static final int[] OTHERS = {0, 0x100, 0x2ff, 0x301, 0x304, 0x305, 0x33f, 0x344, 0x39f, 0x3a1, 0x3a3, 0x3af, 0x3c0, 0xb00, 0xb01, 0xb03, 0xc00, 0xc02, 0xf11, 0xf13, 0xf15, 0xfff};
    private static final int[] KINDS = {1, 2, 3, 5, 6, 7};

    public static void main(String[] args) {
        Check check = new Check("CsrBoundaryTest");
        inModeU(check.about("CSRs, in mode M alone (ILLEGAL in mode U, .."));
        others(check.about(".. and of all others)"));
        mstatus(check.about("300 mstatus: MPP alone (bits 12, 11: 3 or, whatever else is written, 0; all other bits 0)"));
        mepc(check.about("341 mepc (its two lowest bits 0)"));
        whole(check.about("340 mscratch; .. 342 mcause; 343 mtval"));
        addresses(check.about("3b0 .. 3bf pmpaddr0 .. 15 (54 bits)"));
        minstret(check.about("b02 minstret: the STEPS ahead of this one"));
        mhartid(check.about("f14 mhartid: 0"));
        readOnly(check.about("(these two can't be written: ILLEGAL)"));
        doNotWrite(check.about("CSRRS, CSRRC with x0, CSRRSI, CSRRCI with 0 do not write"));
        down(check.about("A FAULT, or an ECALL (11), in mode M: mepc is the pc, mcause the number, mtval the VALUE (0 of an ECALL), the board is DOWN"));
        mret(check.about("MRET: the pc is mepc, the mode what MPP tells, MPP 0"));
        mretInU(check.about("ILLEGAL in mode U"));
        check.end();
    }

    private static void inModeU(Check check) {
        for (int number : new int[] {0x300, 0x340, 0x341, 0x342, 0x343, 0x3a0, 0x3a2, 0x3b0, 0x3bf, 0xb02, 0xf14, 0xc00}) {
            for (int kind : KINDS) {
                int word = Asm.csr(kind, 7, number, 0);
                EnclaveBoard board = Bench.afterU(new Code().add(word));
                String what = Integer.toHexString(number) + " kind " + kind;
                check.due(what + " by the host", board.state(3), 2);
                check.due(what + ": VALUE", board.held(1), word & 0xffffffffL);
                board = Bench.afterEnclave(new Code().add(word));
                check.due(what + " by an enclave", board.register(11), 2);
                check.due(what + " FAULTED", board.enclave(0, 0), 3);
            }
        }
    }

    private static void others(Check check) {
        for (int number : OTHERS) {
            for (int kind : KINDS) {
                check.due(Integer.toHexString(number) + " kind " + kind, Bench.afterM(new Code().add(Asm.csr(kind, 7, number, 0))).state(3), 2);
            }
        }
        for (int number : WRITABLE) {
            for (int kind : KINDS) {
                check.due(Integer.toHexString(number) + " kind " + kind, Bench.afterM(new Code().add(Asm.csr(kind, 7, number, 1))).state(1), 0);
            }
        }
    }

    /** What a CSR reads as behind a write of it. */
    private static long written(int number, long v) {
        return Bench.afterM(new Code().csrw(number, v).add(Asm.csrr(7, number))).register(7);
    }

    private static void mstatus(Check check) {
        for (long mpp = 0; mpp < 4; mpp++) {
            for (long rest : new long[] {0, ~0x1800L}) {
                long want = mpp == 3 ? 0x1800 : 0;
                check.due("MPP " + mpp + " with " + rest, written(Asm.MSTATUS, mpp << 11 | rest), want);
                Code held = new Code().csrw(Asm.MSTATUS, 0x1800).csrw(Asm.MSTATUS, mpp << 11 | rest);
                check.due("MPP " + mpp + " behind 3 with " + rest, Bench.afterM(held).held(2), want);
            }
        }
        Code less = new Code().csrw(Asm.MSTATUS, 0x1800).li(6, 0x1000).add(Asm.csr(3, 0, Asm.MSTATUS, 6));
        check.due("3 less bit 12", Bench.afterM(less).held(2), 0);
        Code more = new Code().li(6, 0x800).add(Asm.csr(2, 0, Asm.MSTATUS, 6)).li(6, 0x1000).add(Asm.csr(2, 0, Asm.MSTATUS, 6));
        check.due("a bit, then the other", Bench.afterM(more).held(2), 0);
    }

    private static void mepc(Check check) {
        for (long v : new long[] {0, 1, 2, 3, 4, 7, -1, -2, -3, Long.MIN_VALUE + 3, Long.MAX_VALUE}) {
            check.due("mepc of " + v, written(Asm.MEPC, v), v & -4);
        }
        check.due("CSRRWI 31", Bench.afterM(new Code().add(Asm.csr(5, 0, Asm.MEPC, 31))).held(4), 28);
        check.due("CSRRSI 3", Bench.afterM(new Code().add(Asm.csr(6, 0, Asm.MEPC, 3))).held(4), 0);
        for (long pc : new long[] {1, 2, 3, -1}) {
            EnclaveBoard board = new EnclaveBoard(0);
            board.reset(pc);
            board.run(1);
            check.due("of a FAULT at " + pc, board.held(4), pc & -4);
        }
    }

    private static void whole(Check check) {
        for (int number : new int[] {Asm.MSCRATCH, Asm.MCAUSE, Asm.MTVAL}) {
            for (long v : new long[] {0, 1, 3, -1, Long.MIN_VALUE, Long.MAX_VALUE}) {
                check.due(Integer.toHexString(number) + " of " + v, written(number, v), v);
            }
        }
    }

    private static void addresses(Check check) {
        long[][] rows = {{0, 0}, {1, 1}, {1L << 53, 1L << 53}, {Bench.ALL, Bench.ALL}, {1L << 54, 0}, {(1L << 54) + 5, 5}, {-1, Bench.ALL}, {Long.MIN_VALUE, 0}};
        for (long[] row : rows) {
            for (int i = 8; i < 16; i++) {
                check.due("pmpaddr" + i + " of " + row[0], written(Asm.PMPADDR0 + i, row[0]), row[1]);
            }
        }
    }

    private static void minstret(Check check) {
        int read = Asm.csrr(7, Asm.MINSTRET);
        EnclaveBoard board = Bench.inM(new Code().add(read, read, Asm.NOP, Asm.jal(0, -4)));
        board.run(1);
        check.due("at the first", board.register(7), 0);
        board.run(1);
        check.due("at the second", board.register(7), 1);
        board = Bench.inM(new Code().add(read, Asm.jal(0, -4)));
        board.run(4999);
        check.due("at the 4999th", board.register(7), 4998);
        board.run(5000);
        check.due("at the 9999th", board.register(7), 9998);
        board.reset(0);
        board.run(1);
        check.due("behind reset", board.register(7), 0);
    }

    private static void mhartid(Check check) {
        for (int kind : new int[] {2, 3, 6, 7}) {
            check.due("kind " + kind, Bench.afterM(new Code().li(7, 6).add(Asm.csr(kind, 7, Asm.MHARTID, 0))).register(7), 0);
        }
    }

    private static void readOnly(Check check) {
        for (int number : new int[] {Asm.MINSTRET, Asm.MHARTID}) {
            for (int kind : KINDS) {
                String what = Integer.toHexString(number) + " kind " + kind;
                EnclaveBoard board = Bench.afterM(new Code().li(7, 6).add(Asm.csr(kind, 7, number, 1)));
                check.due(what + " with x1 or 1", board.state(3), 2);
                check.due(what + ": x7", board.register(7), 6);
                boolean writes = kind == 1 || kind == 5;
                board = Bench.afterM(new Code().li(7, 6).add(Asm.csr(kind, 7, number, 0)));
                check.due(what + " with x0 or 0", board.state(3), writes ? 2 : EnclaveBoard.NONE);
            }
        }
    }

    private static void doNotWrite(Check check) {
        for (int kind : KINDS) {
            EnclaveBoard board = Bench.afterM(new Code().csrw(Asm.MSCRATCH, 0x55).add(Asm.csr(kind, 7, Asm.MSCRATCH, 0)));
            check.due("kind " + kind + " reads", board.register(7), 0x55);
            check.due("kind " + kind + " leaves", board.held(3), kind == 1 || kind == 5 ? 0 : 0x55);
        }
        // A register that holds 0 is not x0: what can't be written is ILLEGAL by it.
        check.due("CSRRS with a 0 that is not in x0", Bench.afterM(new Code().li(8, 0).add(Asm.csr(2, 7, Asm.MINSTRET, 8))).state(3), 2);
        check.due("CSRRC with a 0 that is not in x0", Bench.afterM(new Code().li(8, 0).add(Asm.csr(3, 7, Asm.MHARTID, 8))).state(3), 2);
        EnclaveBoard board = Bench.afterM(new Code().csrw(Asm.MSCRATCH, 3).add(Asm.csr(6, 7, Asm.MSCRATCH, 31)));
        check.due("CSRRSI 31 writes", board.held(3), 31);
        board = Bench.afterM(new Code().csrw(Asm.MSCRATCH, -1).add(Asm.csr(7, 7, Asm.MSCRATCH, 31)));
        check.due("CSRRCI 31 writes", board.held(3), -32);
    }

    private static void down(Check check) {
        long[][] rows = {{0, 2, 0}, {Asm.EBREAK, 3, 12}, {Asm.ECALL, 11, 0}, {Asm.ld(1, 0, -8), 5, -8}, {Asm.jal(1, 2), 0, 14}};
        for (long[] row : rows) {
            String what = Long.toHexString(row[0]);
            EnclaveBoard board = Bench.afterM(new Code().add(Asm.addi(5, 0, 9), Asm.csrw(Asm.MTVAL, 5), Asm.NOP, (int) row[0], Asm.NOP));
            check.due(what + ": DOWN", board.state(1), 2);
            check.due(what + ": number", board.state(3), row[1]);
            check.due(what + ": pc", board.held(0), 12);
            check.due(what + ": mepc", board.held(4), 12);
            check.due(what + ": mcause", board.held(5), row[1]);
            check.due(what + ": mtval", board.held(6), row[2]);
            check.due(what + ": VALUE", board.held(1), row[2]);
            check.due(what + ": mode", board.state(0), 3);
            check.due(what + ": STEPS", board.state(4), 4);
            check.due(what + ": none then", board.run(1), 0);
        }
        EnclaveBoard board = Bench.afterM(new Code().li(17, 1).add(Asm.ECALL));
        check.due("no CALL in mode M", board.register(10), 0);
        check.due("an ECALL in mode M moves no pc", board.held(0), 4);
    }

    private static void mret(Check check) {
        for (long mpp = 0; mpp < 4; mpp++) {
            EnclaveBoard board = Bench.afterM(new Code().csrw(Asm.MSTATUS, mpp << 11).csrw(Asm.MEPC, 67).add(Asm.MRET));
            check.due("pc with MPP " + mpp, board.held(0), 64);
            check.due("mode with MPP " + mpp, board.state(0), mpp == 3 ? 3 : 0);
            check.due("MPP behind " + mpp, board.held(2), 0);
            check.due("mepc behind " + mpp, board.held(4), 64);
        }
        Code away = new Code().csrw(Asm.MEPC, -1).add(Asm.MRET);
        EnclaveBoard board = Bench.afterM(away);
        check.due("to where no memory is", board.held(0), -4);
        check.due("no FAULT yet", board.state(1), 0);
        board.run(1);
        check.due("STOPPED there", board.state(1), 1);
        check.due("by a fetch", board.state(3), 1);
        board = Bench.afterM(new Code().csrw(Asm.MSTATUS, 0x1800).csrw(Asm.MEPC, 65536).add(Asm.MRET));
        board.run(1);
        check.due("DOWN there in mode M", board.state(1), 2);
    }

    private static void mretInU(Check check) {
        EnclaveBoard board = Bench.afterU(new Code().add(Asm.NOP, Asm.MRET));
        check.due("by the host", board.state(3), 2);
        check.due("VALUE", board.held(1), Asm.MRET);
        check.due("pc", board.held(0), Bench.HOST + 4);
        check.due("mode", board.state(0), 0);
        board = Bench.afterEnclave(new Code().add(Asm.NOP, Asm.MRET));
        check.due("by an enclave", board.register(11), 2);
        check.due("its pc", board.eye(0, 32), Bench.BASE + 4);
    }
}
