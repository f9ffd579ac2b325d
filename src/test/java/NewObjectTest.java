/** Promise 1: a new object. */
public final class NewObjectTest {
    public static void main(String[] args) {
        Check check = new Check("NewObjectTest");
        allIsZero(check);
        startsAtZeroInM(check);
        secretIsForGood(check);
        check.end();
    }

    private static void allIsZero(Check check) {
        EnclaveBoard board = new EnclaveBoard(77);
        EnclaveBoard looked = board;
        for (int at = 0; at < 65536; at += 8) {
            // An object answers for 512 calls alone.
            looked = at % 2048 == 0 ? new EnclaveBoard(at) : looked;
            check.due("peek(" + at + ")", looked.peek(at), 0);
        }
        for (int k = 0; k < 32; k++) {
            check.due("register(" + k + ")", board.register(k), 0);
        }
        for (int what = 0; what < 9; what++) {
            int want = what == 0 ? 3 : what == 2 || what == 3 ? EnclaveBoard.NONE : 0;
            check.due("state(" + what + ")", board.state(what), want);
        }
        for (int what = 0; what < 7; what++) {
            check.due("held(" + what + ")", board.held(what), 0);
        }
        for (int i = 0; i < 16; i++) {
            check.due("pmp(" + i + ", 0)", board.pmp(i, 0), 0);
            check.due("pmp(" + i + ", 1)", board.pmp(i, 1), 0);
        }
        for (int e = 0; e < 6; e++) {
            check.due("enclave(" + e + ", 0)", board.enclave(e, 0), 0);
        }
    }

    private static void startsAtZeroInM(Check check) {
        EnclaveBoard board = Bench.afterM(new Code().add(Asm.csrr(7, Asm.MHARTID), Asm.addi(6, 0, 9)));
        check.due("x6 of the program at 0", board.register(6), 9);
        check.due("mode", board.state(0), 3);
    }

    private static void secretIsForGood(Check check) {
        Code host = new Code().create(16384, 32, 0, 0, 0, 0, 0);
        EnclaveBoard one = Bench.inU(5, Bench.openFirmware(), host, new Code());
        one.run(host.size());
        long key = one.eye(0, 34);
        one.reset(0);
        one.run(Bench.openFirmware().size() + host.size());
        check.due("KEY behind a reset", one.eye(0, 34), key);
        EnclaveBoard other = Bench.inU(6, Bench.openFirmware(), host, new Code());
        other.run(host.size());
        check.due("another secret, another KEY", other.eye(0, 34) == key, false);
        check.due("another secret, the same MEASURE", other.eye(0, 33), one.eye(0, 33));
    }
}
