/** ENTER, the CALLS of an enclave, and the ways in which a stay ends. */
public final class StayTest {
    private static final int SECRET = 1234567;
    private static final int BASE = 16384;
    private static final int SHARED = 12288;

    public static void main(String[] args) {
        Check check = new Check("StayTest");
        exits(check);
        calls(check);
        limits(check);
        faults(check);
        protection(check);
        goesOn(check);
        check.end();
    }

    private static Code made() {
        return new Code().create(BASE, 256, Bench.IMAGE, 256, 0, SHARED, 64);
    }

    private static EnclaveBoard entered(Code image, long n) {
        Code host = made().enter(0, n).add(Asm.NOP);
        EnclaveBoard board = Bench.inU(SECRET, Bench.openFirmware(), host, image);
        board.run(host.size() - 1);
        return board;
    }

    private static void exits(Check check) {
        EnclaveBoard board = entered(new Code().li(17, 1).li(10, -9).add(Asm.ECALL), 0);
        for (int k = 0; k < 32; k++) {
            check.due("x" + k + " of a NEW one", board.eye(0, k), 0);
        }
        check.due("pc", board.eye(0, 32), BASE);
        board.run(3);
        check.due("left", board.state(2), EnclaveBoard.NONE);
        check.due("reason", board.register(10), 0);
        check.due("value", board.register(11), -9);
        check.due("LEFT", board.enclave(0, 0), 2);
        check.due("pc behind its ECALL", board.eye(0, 32), BASE + 12);
        check.due("x10 of it", board.eye(0, 10), -9);
        check.due("not by INTERRUPT", board.state(7), 0);
        check.due("STEPS", board.enclave(0, 7), 3);
        check.due("pc of the host", board.held(0), Bench.HOST + made().enter(0, 0).bytes());
    }

    private static void calls(Check check) {
        EnclaveBoard board = entered(new Code().li(17, 2).add(Asm.ECALL).li(17, 3).add(Asm.ECALL), 0);
        board.run(2);
        check.due("KEY", board.eye(0, 10), EnclaveViewTest.key(SECRET, board.eye(0, 33)));
        check.due("KEY as eye sees it", board.eye(0, 34), board.eye(0, 10));
        check.due("x11", board.eye(0, 11), 0);
        board.run(2);
        check.due("WHERE: base", board.eye(0, 10), BASE);
        check.due("WHERE: size", board.eye(0, 11), 256);
        check.due("WHERE: shared", board.eye(0, 12), SHARED);
        check.due("WHERE: its size", board.eye(0, 13), 64);
        check.due("it runs on", board.state(2), 0);
        check.due("host's x10", board.register(10), 0);
        for (long number : new long[] {0, 4, -1, 1L << 32 | 1}) {
            Code image = new Code().li(11, 5).li(17, number).add(Asm.ECALL);
            board = entered(image, 0);
            board.run(image.size());
            check.due("CALL " + number, board.eye(0, 10), -1);
            check.due("CALL " + number + " leaves x11", board.eye(0, 11), 5);
            check.due("CALL " + number + " goes on", board.eye(0, 32), BASE + image.bytes());
        }
        Code host = new Code().create(BASE, 32, Bench.IMAGE, 32, 0, 8, 0).enter(0, 0);
        board = Bench.inU(host, new Code().li(12, 7).li(13, 7).li(17, 3).add(Asm.ECALL));
        board.run(host.size() + 4);
        check.due("WHERE: nothing shared", board.eye(0, 12), 0);
        check.due("WHERE: of size 0", board.eye(0, 13), 0);
    }

    private static void limits(Check check) {
        Code loop = new Code().add(Asm.addi(5, 5, 1), Asm.jal(0, -4));
        for (int n = 1; n < 6; n++) {
            EnclaveBoard board = entered(loop, n);
            board.run(n == 1 ? 1 : n - 1);
            check.due("runs up to " + n, board.state(2), n == 1 ? EnclaveBoard.NONE : 0);
            if (n > 1) {
                board.run(1);
            }
            check.due("left behind " + n, board.state(2), EnclaveBoard.NONE);
            check.due("reason", board.register(10), 1);
            check.due("value", board.register(11), 0);
            check.due("LEFT", board.enclave(0, 0), 2);
            check.due("STEPS", board.enclave(0, 7), n);
            check.due("by INTERRUPT", board.state(7), 1);
            check.due("none for the host", board.state(8), 0);
        }
        for (long n : new long[] {0, -1, Long.MIN_VALUE, 1L << 32}) {
            EnclaveBoard board = entered(loop, n);
            board.run(5000);
            check.due("runs on with " + n, board.state(2), 0);
        }
        Code exit = new Code().li(17, 1).add(Asm.ECALL);
        EnclaveBoard board = entered(exit, 2);
        board.run(2);
        check.due("the last one an EXIT", board.register(10), 0);
        check.due("no INTERRUPT", board.state(7), 0);
        board = entered(new Code().add(Asm.NOP, Asm.EBREAK), 2);
        board.run(2);
        check.due("the last one a FAULT", board.register(10), 2);
        check.due("its number", board.register(11), 3);
        check.due("no INTERRUPT", board.state(7), 0);
        board = entered(new Code().li(17, 2).add(Asm.ECALL), 2);
        board.run(2);
        check.due("the last one a KEY", board.register(10), 1);
        check.due("pc behind it", board.eye(0, 32), BASE + 8);
    }

    private static void faults(Check check) {
        Object[][] rows = {
            {Asm.jal(1, 6), 0}, {0, 2}, {Asm.csrr(1, Asm.MHARTID), 2}, {Asm.MRET, 2}, {Asm.EBREAK, 3},
            {Asm.load(1, 1, 0, 1), 4}, {Asm.ld(1, 0, 0), 5}, {Asm.s(2, 0, 0, 2), 6}, {Asm.sd(0, 0, 0), 7}
        };
        for (Object[] row : rows) {
            EnclaveBoard board = entered(new Code().add((Integer) row[0]), 0);
            board.run(1);
            check.due("FAULT", board.register(10), 2);
            check.due("number", board.register(11), (Integer) row[1]);
            check.due("FAULTED", board.enclave(0, 0), 3);
            check.due("the host goes", board.state(1), 0);
            check.due("no number of the host", board.state(3), EnclaveBoard.NONE);
            check.due("no VALUE of the host", board.held(1), 0);
            check.due("pc", board.eye(0, 32), BASE);
            check.due("x1", board.eye(0, 1), 0);
        }
        EnclaveBoard board = entered(new Code().add(Asm.jal(0, 256)), 0);
        board.run(2);
        check.due("behind its memory: number", board.register(11), 1);
        check.due("behind its memory: pc", board.eye(0, 32), BASE + 256);
        Code host = made().enter(0, 0).enter(0, 9);
        board = Bench.inU(host, new Code().add(0));
        board.run(host.size() + 1);
        check.due("ENTER of a FAULTED one", board.register(10), -5);
        check.due("x11 stays", board.register(11), 9);
        check.due("stays begun", board.state(6), 1);
    }

    /** What a program in an enclave gets at an address: NONE, or the number of the FAULT. */
    private static long access(long at, int word) {
        Code host = made().create(BASE + 256, 32, Bench.IMAGE, 0, 0, 0, 0).enter(0, 0);
        Code image = new Code().li(6, at).add(word);
        EnclaveBoard board = Bench.inU(host, image);
        board.run(host.size() + image.size());
        return board.state(2) == 0 ? -1 : board.register(11);
    }

    private static void protection(Check check) {
        int load = Asm.ld(7, 6, 0);
        int store = Asm.sd(7, 6, 0);
        check.due("loads its memory", access(BASE, load), -1);
        check.due("stores into its memory", access(BASE + 248, store), -1);
        check.due("loads ahead of it", access(BASE - 8, load), 5);
        check.due("loads behind it", access(BASE + 256, load), 5);
        check.due("stores into another's", access(BASE + 256, store), 7);
        check.due("loads what is shared", access(SHARED + 56, load), -1);
        check.due("stores into what is shared", access(SHARED, store), -1);
        check.due("loads behind what is shared", access(SHARED + 64, load), 5);
        check.due("loads the host's", access(Bench.HOST, load), 5);
        Code host = made().enter(0, 0);
        Code image = new Code().li(6, SHARED).add(Asm.jalr(0, 6, 0));
        EnclaveBoard board = Bench.inU(host, image);
        board.poke(SHARED, Asm.NOP);
        board.run(host.size() + image.size() + 1);
        check.due("does not run what is shared", board.register(11), 1);
        Code looks = made().li(6, BASE).add(load);
        board = Bench.inU(looks, new Code());
        board.run(looks.size());
        check.due("the host may not load it", board.state(3), 5);
        check.due("VALUE", board.held(1), BASE);
        Code writes = made().li(6, BASE + 255).add(Asm.s(0, 6, 0, 0));
        board = Bench.inU(writes, new Code());
        board.run(writes.size());
        check.due("the host may not store into it", board.state(3), 7);
        Code runs = made().li(6, BASE).add(Asm.jalr(0, 6, 0));
        board = Bench.inU(runs, new Code());
        board.run(runs.size() + 1);
        check.due("the host may not run it", board.state(3), 1);
    }

    private static void goesOn(Check check) {
        Code image = new Code().li(6, SHARED).add(Asm.addi(5, 5, 1)).li(17, 1)
                .add(Asm.sd(5, 6, 0), Asm.addi(10, 5, 0), Asm.ECALL, Asm.jal(0, -20));
        Code host = made().enter(0, 0).enter(0, 0).enter(0, 2);
        EnclaveBoard board = Bench.inU(host, image);
        board.run(made().enter(0, 0).size() + image.size() - 1);
        check.due("first value", board.register(11), 1);
        check.due("shared with the host", board.peek(SHARED), 1);
        board.run(new Code().enter(0, 0).size() + 6);
        check.due("second value", board.register(11), 2);
        check.due("shared with the host", board.peek(SHARED), 2);
        check.due("stays", board.enclave(0, 6), 2);
        board.run(new Code().enter(0, 2).size() + 2);
        check.due("third: INTERRUPT", board.register(10), 1);
        check.due("x5", board.eye(0, 5), 3);
        check.due("STEPS of all", board.enclave(0, 7), image.size() - 1 + 6 + 2);
    }
}
