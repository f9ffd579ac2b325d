/** Promise 8: state. */
public final class StateTest {
    public static void main(String[] args) {
        Check check = new Check("StateTest");
        outside(check);
        modes(check);
        counts(check);
        stopped(check);
        check.end();
    }

    private static void outside(Check check) {
        EnclaveBoard board = new EnclaveBoard(0);
        for (int what : new int[] {-1, 9, 10, Integer.MIN_VALUE, Integer.MAX_VALUE}) {
            check.due("state(" + what + ")", board.state(what), EnclaveBoard.NONE);
        }
    }

    private static void modes(Check check) {
        Code stayInM = new Code().csrw(Asm.MSTATUS, 3 << 11).csrw(Asm.MEPC, 64).add(Asm.MRET);
        EnclaveBoard board = Bench.afterM(stayInM);
        check.due("M by MPP 3", board.state(0), 3);
        check.due("pc", board.held(0), 64);
        check.due("MPP 0 behind MRET", board.held(2), 0);
        board = Bench.afterM(new Code().csrw(Asm.MEPC, 64).add(Asm.MRET));
        check.due("U by MPP 0", board.state(0), 0);
        check.due("goes", board.state(1), 0);
        check.due("no enclave", board.state(2), EnclaveBoard.NONE);
    }

    private static void counts(Check check) {
        Code image = new Code().add(Asm.jal(0, 0));
        Code host = new Code().create(16384, 32, Bench.IMAGE, 4, 0, 0, 0).create(16384, 32, Bench.IMAGE, 4, 0, 0, 0)
                .create(16416, 32, Bench.IMAGE, 4, 0, 0, 0).enter(1, 5).enter(4, 5).enter(1, 0);
        EnclaveBoard board = Bench.inU(host, image);
        board.run(host.size() + 5 + 7);
        check.due("mode U in a stay", board.state(0), 0);
        check.due("enclave 1 runs", board.state(2), 1);
        check.due("no FAULT", board.state(3), EnclaveBoard.NONE);
        check.due("STEPS", board.state(4), Bench.openFirmware().size() + host.size() + 12);
        check.due("CREATES that succeeded", board.state(5), 2);
        check.due("stays begun", board.state(6), 2);
        check.due("stays ended by INTERRUPT", board.state(7), 1);
        check.due("for the host", board.state(8), 0);
    }

    private static void stopped(Check check) {
        EnclaveBoard board = Bench.inU(new Code().add(0), new Code());
        board.run(1);
        check.due("mode U", board.state(0), 0);
        check.due("STOPPED", board.state(1), 1);
        check.due("ILLEGAL", board.state(3), 2);
        board = Bench.afterM(new Code().add(0));
        check.due("mode M", board.state(0), 3);
        check.due("DOWN", board.state(1), 2);
        check.due("ILLEGAL", board.state(3), 2);
        board = Bench.afterM(new Code().add(Asm.ECALL));
        check.due("ECALL in M", board.state(3), 11);
    }
}
