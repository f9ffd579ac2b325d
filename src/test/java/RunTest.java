/** Promise 6: run. */
public final class RunTest {
    public static void main(String[] args) {
        Check check = new Check("RunTest");
        limits(check);
        fewer(check);
        acrossStays(check);
        check.end();
    }

    private static void limits(Check check) {
        EnclaveBoard board = Bench.inM(new Code().add(Asm.jal(0, 0)));
        for (int steps : new int[] {0, -1, 5001, Integer.MAX_VALUE, Integer.MIN_VALUE}) {
            check.due("run(" + steps + ")", board.run(steps), EnclaveBoard.NONE);
            check.due("STEPS", board.state(4), 0);
        }
        check.due("run(1)", board.run(1), 1);
        check.due("run(5000)", board.run(5000), 5000);
        check.due("STEPS", board.state(4), 5001);
    }

    private static void fewer(Check check) {
        EnclaveBoard board = Bench.inM(new Code().add(Asm.NOP, Asm.NOP, Asm.EBREAK));
        check.due("DOWN by the third", board.run(10), 3);
        check.due("none then", board.run(10), 0);
        check.due("STEPS", board.state(4), 3);
        check.due("NONE all the same", board.run(0), EnclaveBoard.NONE);
        board = Bench.inM(new Code().add(Asm.NOP, Asm.EBREAK));
        check.due("DOWN by the last", board.run(2), 2);
        board = Bench.inU(new Code().add(Asm.NOP, Asm.EBREAK), new Code());
        check.due("STOPPED by the second", board.run(10), 2);
        check.due("none then", board.run(1), 0);
    }

    private static void acrossStays(Check check) {
        Code host = new Code().create(16384, 32, Bench.IMAGE, 8, 0, 0, 0).enter(0, 3).add(Asm.EBREAK);
        Code image = new Code().add(Asm.NOP, Asm.jal(0, 0));
        EnclaveBoard board = Bench.inU(host, image);
        check.due("host, stay, host", board.run(5000), host.size() + 3);
        check.due("STEPS", board.state(4), Bench.openFirmware().size() + host.size() + 3);
        check.due("STOPPED", board.state(1), 1);
    }
}
