/** Promise 9: held. */
public final class HeldTest {
    public static void main(String[] args) {
        Check check = new Check("HeldTest");
        csrs(check);
        pcAndValue(check);
        check.end();
    }

    private static void csrs(Check check) {
        Code code = new Code().csrw(Asm.MSTATUS, -1).csrw(Asm.MSCRATCH, -2).csrw(Asm.MEPC, -1).csrw(Asm.MCAUSE, -3).csrw(Asm.MTVAL, -4);
        EnclaveBoard board = Bench.afterM(code);
        check.due("pc", board.held(0), code.bytes());
        check.due("VALUE", board.held(1), 0);
        check.due("mstatus", board.held(2), 3 << 11);
        check.due("mscratch", board.held(3), -2);
        check.due("mepc", board.held(4), -4);
        check.due("mcause", board.held(5), -3);
        check.due("mtval", board.held(6), -4);
        for (int what : new int[] {-1, 7, 8, Integer.MIN_VALUE, Integer.MAX_VALUE}) {
            check.due("held(" + what + ")", board.held(what), 0);
        }
    }

    private static void pcAndValue(Check check) {
        Code host = new Code().create(16384, 32, Bench.IMAGE, 4, 0, 0, 0).enter(0, 2).add(Asm.csrr(5, Asm.MEPC));
        EnclaveBoard board = Bench.inU(host, new Code().add(Asm.jal(0, 0)));
        board.run(host.size());
        check.due("an enclave runs", board.state(2), 0);
        check.due("pc behind the ECALL", board.held(0), Bench.HOST + host.bytes() - 4);
        board.run(2);
        check.due("STOPPED", board.state(1), 1);
        check.due("pc of the instruction", board.held(0), Bench.HOST + host.bytes() - 4);
        check.due("VALUE the 32 bits", board.held(1), Asm.csrr(5, Asm.MEPC));
        check.due("mepc is the firmware's", board.held(4), Bench.HOST);
        check.due("mcause is not of the host", board.held(5), 0);
        board = Bench.afterM(new Code().add(Asm.NOP, 0xffffffff));
        check.due("VALUE without sign", board.held(1), 0xffffffffL);
        check.due("mtval without sign", board.held(6), 0xffffffffL);
        check.due("mepc", board.held(4), 4);
        check.due("mcause", board.held(5), 2);
        board = Bench.afterM(new Code().csrw(Asm.MTVAL, 9).add(Asm.ECALL));
        check.due("VALUE of an ECALL", board.held(1), 0);
        check.due("mtval of an ECALL", board.held(6), 0);
        check.due("mcause of an ECALL", board.held(5), 11);
        check.due("mepc of an ECALL", board.held(4), 8);
        check.due("pc of an ECALL", board.held(0), 8);
    }
}
