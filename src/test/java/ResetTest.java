/** Promise 2: reset. */
public final class ResetTest {
    private static final int BASE = 16384;
    private static final int SHARED = 12288;

    public static void main(String[] args) {
        Check check = new Check("ResetTest");
        whileAnEnclaveRuns(check);
        afterStopAndDown(check);
        pcOfAnyKind(check);
        csrsGo(check);
        locksGo(check);
        interruptGoes(check);
        check.end();
    }

    private static EnclaveBoard withRunningEnclave() {
        Code image = new Code().add(Asm.jal(0, 0)).add(1, 2, 3);
        Code host = new Code().create(BASE, 64, Bench.IMAGE, 16, 0, SHARED, 64)
                .create(BASE + 64, 32, Bench.IMAGE, 16, 0, 0, 0).enter(0, 0);
        EnclaveBoard board = Bench.inU(host, image);
        board.poke(SHARED, 4711);
        board.run(host.size() + 3);
        return board;
    }

    private static void whileAnEnclaveRuns(Check check) {
        EnclaveBoard board = withRunningEnclave();
        check.due("runs", board.state(2), 0);
        board.interrupt();
        board.reset(Bench.HOST);
        check.due("mode", board.state(0), 3);
        check.due("pc", board.held(0), Bench.HOST);
        check.due("goes", board.state(1), 0);
        check.due("runs", board.state(2), EnclaveBoard.NONE);
        for (int what = 4; what <= 8; what++) {
            check.due("state(" + what + ")", board.state(what), 0);
        }
        for (int k = 0; k < 32; k++) {
            check.due("register(" + k + ")", board.register(k), 0);
        }
        for (int what = 2; what < 7; what++) {
            check.due("held(" + what + ")", board.held(what), 0);
        }
        for (int i = 0; i < 16; i++) {
            check.due("pmp(" + i + ", 0)", board.pmp(i, 0), 0);
            check.due("pmp(" + i + ", 1)", board.pmp(i, 1), 0);
        }
        for (int e = 0; e < 6; e++) {
            check.due("enclave(" + e + ", 0)", board.enclave(e, 0), 0);
            check.due("eye(" + e + ", 33)", board.eye(e, 33), 0);
        }
        for (int at = BASE; at < BASE + 96; at += 8) {
            check.due("peek(" + at + ")", board.peek(at), 0);
        }
        check.due("shared memory stays", board.peek(SHARED), 4711);
        check.due("the image stays", board.peek(Bench.IMAGE + 8), 3L << 32 | 2);
    }

    private static void afterStopAndDown(Check check) {
        EnclaveBoard board = Bench.inU(new Code().add(Asm.EBREAK), new Code());
        board.run(5);
        check.due("STOPPED", board.state(1), 1);
        board.reset(0);
        check.due("goes", board.state(1), 0);
        check.due("no number", board.state(3), EnclaveBoard.NONE);
        check.due("no VALUE", board.held(1), 0);
        check.due("mode", board.state(0), 3);
        board.reset(Bench.HOST);
        check.due("run", board.run(3), 1);
        check.due("DOWN", board.state(1), 2);
        check.due("mepc", board.held(4), Bench.HOST);
        board.reset(0);
        check.due("goes", board.state(1), 0);
        check.due("mepc", board.held(4), 0);
        check.due("mcause", board.held(5), 0);
        check.due("mtval", board.held(6), 0);
        check.due("run", board.run(1), 1);
    }

    private static void pcOfAnyKind(Check check) {
        long[] pcs = {65536, -4, Long.MIN_VALUE, Long.MAX_VALUE - 3, 4294967296L};
        for (long pc : pcs) {
            EnclaveBoard board = new EnclaveBoard(0);
            board.reset(pc);
            check.due("pc", board.held(0), pc);
            check.due("run at " + pc, board.run(10), 1);
            check.due("number at " + pc, board.state(3), 1);
            check.due("VALUE at " + pc, board.held(1), pc);
            check.due("mtval at " + pc, board.held(6), pc);
        }
        for (long pc : new long[] {1, 2, 3, 65537, -1}) {
            EnclaveBoard board = new EnclaveBoard(0);
            board.reset(pc);
            board.run(1);
            check.due("number at " + pc, board.state(3), 0);
            check.due("VALUE at " + pc, board.held(1), pc);
            check.due("pc at " + pc, board.held(0), pc);
            check.due("mepc at " + pc, board.held(4), pc & ~3L);
        }
    }

    private static void csrsGo(Check check) {
        EnclaveBoard board = Bench.afterM(new Code().csrw(Asm.MSTATUS, -1).csrw(Asm.MSCRATCH, -1).csrw(Asm.MEPC, -1)
                .csrw(Asm.MCAUSE, -1).csrw(Asm.MTVAL, -1).csrw(Asm.PMPADDR0 + 12, -1));
        board.reset(8);
        check.due("pc", board.held(0), 8);
        for (int what = 1; what < 7; what++) {
            check.due("held(" + what + ")", board.held(what), 0);
        }
        check.due("address 12", board.pmp(12, 1), 0);
    }

    private static void locksGo(Check check) {
        Code code = new Code().csrw(Asm.PMPADDR0 + 8, 5).csrw(Asm.PMPCFG2, 0x80);
        EnclaveBoard board = Bench.afterM(code);
        check.due("locked", board.pmp(8, 0), 0x80);
        board.reset(0);
        check.due("byte", board.pmp(8, 0), 0);
        board.run(2);
        check.due("address can be written again", board.pmp(8, 1), 5);
    }

    private static void interruptGoes(Check check) {
        EnclaveBoard board = Bench.inM(new Code().add(Asm.NOP, Asm.NOP));
        board.interrupt();
        board.reset(0);
        board.run(1);
        check.due("none is counted", board.state(8), 0);
    }
}
