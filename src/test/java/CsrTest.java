/** The CSRs and the instructions that reach them. */
public final class CsrTest {
    public static void main(String[] args) {
        Check check = new Check("CsrTest");
        kinds(check);
        whichAreThere(check);
        readOnly(check);
        fields(check);
        counts(check);
        returns(check);
        check.end();
    }

    private static void kinds(Check check) {
        long[] want = {0, 0x35, 0xf5 | 0x35, 0xf0 & ~0x35, 0, 21, 0xf0 | 21, 0xf0 & ~21};
        for (int kind : new int[] {1, 2, 3, 5, 6, 7}) {
            Code code = new Code().csrw(Asm.MSCRATCH, 0xf0).li(21, 0x35).add(Asm.csr(kind, 7, Asm.MSCRATCH, 21));
            EnclaveBoard board = Bench.afterM(code);
            check.due("CSR " + kind + " answers", board.register(7), 0xf0);
            check.due("CSR " + kind + " leaves", board.held(3), want[kind]);
            board = Bench.afterM(new Code().csrw(Asm.MSCRATCH, 0xf0).add(Asm.csr(kind, 7, Asm.MSCRATCH, 0)));
            check.due("CSR " + kind + " with 0 answers", board.register(7), 0xf0);
            check.due("CSR " + kind + " with 0 leaves", board.held(3), kind == 1 || kind == 5 ? 0 : 0xf0);
        }
        EnclaveBoard board = Bench.afterM(new Code().csrw(Asm.MSCRATCH, 3).li(9, 8).add(Asm.csr(1, 9, Asm.MSCRATCH, 9)));
        check.due("swapped register", board.register(9), 3);
        check.due("swapped CSR", board.held(3), 8);
        board = Bench.afterM(new Code().csrw(Asm.MSCRATCH, 3).add(Asm.csr(1, 0, Asm.MSCRATCH, 0)));
        check.due("x0", board.register(0), 0);
        check.due("written by x0", board.held(3), 0);
    }

    private static boolean isThere(int number) {
        return number == 0x300 || number >= 0x340 && number <= 0x343 || number == 0x3a0 || number == 0x3a2
                || number >= 0x3b0 && number <= 0x3bf || number == 0xb02 || number == 0xf14;
    }

    private static void whichAreThere(Check check) {
        for (int number = 0; number < 4096; number++) {
            EnclaveBoard board = Bench.afterM(new Code().add(Asm.csrr(7, number)));
            check.due("CSR " + Integer.toHexString(number), board.state(1), isThere(number) ? 0 : 2);
            board = Bench.afterM(new Code().add(Asm.csrw(number, 7)));
            boolean writable = isThere(number) && number != 0xb02 && number != 0xf14;
            check.due("CSR " + Integer.toHexString(number) + " written", board.state(1), writable ? 0 : 2);
            board = Bench.afterU(new Code().add(Asm.csrr(7, number)));
            check.due("CSR " + Integer.toHexString(number) + " in U", board.state(3), 2);
        }
    }

    private static void readOnly(Check check) {
        for (int number : new int[] {Asm.MINSTRET, Asm.MHARTID}) {
            for (int kind : new int[] {1, 2, 3, 5, 6, 7}) {
                int word = Asm.csr(kind, 7, number, 3);
                EnclaveBoard board = Bench.afterM(new Code().li(7, 6).add(word));
                check.due("write " + kind, board.state(3), 2);
                check.due("VALUE " + kind, board.held(1), word & 0xffffffffL);
                check.due("x7 stays", board.register(7), 6);
                board = Bench.afterM(new Code().li(7, 6).add(Asm.csr(kind, 7, number, 0)));
                check.due("with 0 " + kind, board.state(1), kind == 1 || kind == 5 ? 2 : 0);
            }
        }
        check.due("mhartid", Bench.afterM(new Code().li(7, 6).add(Asm.csrr(7, Asm.MHARTID))).register(7), 0);
    }

    private static void fields(Check check) {
        long[][] rows = {
            {Asm.MSTATUS, -1, 0x1800}, {Asm.MSTATUS, 0x1800, 0x1800}, {Asm.MSTATUS, 0x800, 0}, {Asm.MSTATUS, 0x1000, 0}, {Asm.MSTATUS, ~0x1800L, 0},
            {Asm.MSCRATCH, Long.MIN_VALUE + 1, Long.MIN_VALUE + 1}, {Asm.MEPC, 7, 4}, {Asm.MEPC, -1, -4},
            {Asm.MCAUSE, -1, -1}, {Asm.MTVAL, -1, -1},
            {Asm.PMPADDR0 + 8, -1, (1L << 54) - 1}, {Asm.PMPADDR0 + 15, 1L << 54, 0}, {Asm.PMPADDR0 + 15, 1L << 53, 1L << 53},
            {Asm.PMPADDR0, -1, 0}, {Asm.PMPADDR0 + 7, -1, 0}, {Asm.PMPCFG0, -1, 0},
            {Asm.PMPCFG2, 0x7f7e7d7c7b7a7978L, 0x1f1c1d1c1b181918L}, {Asm.PMPCFG2, 0x0002000600020006L, 0x0000000400000004L}
        };
        for (long[] row : rows) {
            EnclaveBoard board = Bench.afterM(new Code().csrw((int) row[0], row[1]).add(Asm.csrr(7, (int) row[0])));
            check.due("CSR " + Long.toHexString(row[0]) + " of " + Long.toHexString(row[1]), board.register(7), row[2]);
        }
        EnclaveBoard board = Bench.afterM(new Code().csrw(Asm.MSTATUS, 0x1800).li(8, 0x800).add(Asm.csr(3, 7, Asm.MSTATUS, 8)));
        check.due("MPP 3 less a bit is 0", board.held(2), 0);
    }

    private static void counts(Check check) {
        EnclaveBoard board = Bench.inM(new Code().add(Asm.csrr(7, Asm.MINSTRET), Asm.NOP, Asm.csrr(8, Asm.MINSTRET)));
        board.run(3);
        check.due("minstret at first", board.register(7), 0);
        check.due("minstret behind two", board.register(8), 2);
        board.reset(8);
        board.run(1);
        check.due("minstret behind reset", board.register(8), 0);
    }

    private static void returns(Check check) {
        Code code = new Code().csrw(Asm.MSTATUS, 0x1800).csrw(Asm.MEPC, 66).add(Asm.MRET);
        EnclaveBoard board = Bench.afterM(code);
        check.due("pc", board.held(0), 64);
        check.due("mepc stays", board.held(4), 64);
        check.due("mode M", board.state(0), 3);
        check.due("MPP", board.held(2), 0);
        board = Bench.afterM(new Code().csrw(Asm.MEPC, 1L << 40).add(Asm.MRET));
        check.due("mode U", board.state(0), 0);
        check.due("run", board.run(1), 1);
        check.due("no fetch there", board.state(3), 1);
        check.due("STOPPED, not DOWN", board.state(1), 1);
        check.due("VALUE", board.held(1), 1L << 40);
    }
}
