/** Promise 5: interrupt. */
public final class InterruptTest {
    private static final int BASE = 16384;

    public static void main(String[] args) {
        Check check = new Check("InterruptTest");
        countedInM(check);
        countedForHost(check);
        endsAStay(check);
        aheadOfTheExit(check);
        besideTheLimit(check);
        waitsWithoutSteps(check);
        check.end();
    }

    private static void countedInM(Check check) {
        EnclaveBoard board = Bench.inM(new Code().add(Asm.NOP, Asm.NOP, Asm.NOP));
        board.interrupt();
        board.interrupt();
        check.due("waits", board.state(8), 0);
        board.run(1);
        check.due("once", board.state(8), 1);
        board.run(1);
        check.due("no more", board.state(8), 1);
        board.interrupt();
        board.run(1);
        check.due("another", board.state(8), 2);
    }

    private static void countedForHost(Check check) {
        EnclaveBoard board = Bench.inU(new Code().add(Asm.NOP, Asm.NOP), new Code());
        board.interrupt();
        board.run(1);
        check.due("counted", board.state(8), 1);
        check.due("no stay ended", board.state(7), 0);
        check.due("the step is done", board.held(0), Bench.HOST + 4);
    }

    private static Code host(long n) {
        return new Code().create(BASE, 32, Bench.IMAGE, 32, 0, 0, 0).enter(0, n);
    }

    private static void endsAStay(Check check) {
        Code image = new Code().add(Asm.addi(5, 5, 1), Asm.addi(5, 5, 1), Asm.addi(5, 5, 1), Asm.jal(0, -12));
        Code host = host(0).add(Asm.addi(20, 0, 3)).enter(0, 0);
        EnclaveBoard board = Bench.inU(host, image);
        board.run(host(0).size() + 2);
        check.due("runs", board.state(2), 0);
        board.interrupt();
        check.due("still runs", board.state(2), 0);
        board.run(1);
        check.due("left", board.state(2), EnclaveBoard.NONE);
        check.due("LEFT", board.enclave(0, 0), 2);
        check.due("the step is the host's", board.register(20), 3);
        check.due("reason", board.register(10), 1);
        check.due("value", board.register(11), 0);
        check.due("steps of the stay", board.enclave(0, 7), 2);
        check.due("ended by INTERRUPT", board.state(7), 1);
        check.due("not for the host", board.state(8), 0);
        check.due("x5 as it left", board.eye(0, 5), 2);
        check.due("pc as it left", board.eye(0, 32), BASE + 8);
        board.run(new Code().enter(0, 0).size() + 1);
        check.due("goes on", board.eye(0, 5), 3);
        check.due("stays", board.enclave(0, 6), 2);
    }

    private static void aheadOfTheExit(Check check) {
        Code image = new Code().li(17, 1).add(Asm.ECALL);
        EnclaveBoard board = Bench.inU(host(0).add(Asm.NOP), image);
        board.run(host(0).size() + 1);
        board.interrupt();
        board.run(1);
        check.due("INTERRUPT, not EXIT", board.register(10), 1);
        check.due("pc at the ECALL", board.eye(0, 32), BASE + 4);
    }

    private static void besideTheLimit(Check check) {
        Code image = new Code().add(Asm.jal(0, 0));
        EnclaveBoard board = Bench.inU(host(2).add(Asm.NOP, Asm.NOP), image);
        board.run(host(2).size() + 1);
        board.interrupt();
        board.run(1);
        check.due("one stay ended", board.state(7), 1);
        check.due("by the interrupt that waited", board.enclave(0, 7), 1);
        board = Bench.inU(host(2).add(Asm.NOP, Asm.NOP), image);
        board.run(host(2).size() + 2);
        check.due("ended by its limit", board.state(2), EnclaveBoard.NONE);
        board.interrupt();
        board.run(1);
        check.due("then it is the host's", board.state(8), 1);
        check.due("one stay ended", board.state(7), 1);
    }

    private static void waitsWithoutSteps(Check check) {
        EnclaveBoard board = new EnclaveBoard(0);
        board.run(1);
        board.interrupt();
        check.due("DOWN", board.run(5), 0);
        check.due("nothing counted", board.state(8), 0);
        board = Bench.inM(new Code().add(Asm.NOP));
        board.interrupt();
        board.run(0);
        check.due("run(0) takes none", board.state(8), 0);
        board.run(1);
        check.due("it waited", board.state(8), 1);
    }
}
