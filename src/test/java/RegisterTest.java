/** Promise 7: register. */
public final class RegisterTest {
    public static void main(String[] args) {
        Check check = new Check("RegisterTest");
        eachRegister(check);
        asTheHostHasThem(check);
        check.end();
    }

    private static void eachRegister(Check check) {
        Code code = new Code();
        for (int k = 0; k < 32; k++) {
            code.add(Asm.addi(k, 0, -100 - k));
        }
        EnclaveBoard board = Bench.afterM(code);
        for (int k = 0; k < 32; k++) {
            check.due("register(" + k + ")", board.register(k), k == 0 ? 0 : -100 - k);
        }
        for (int k : new int[] {-1, 32, 64, Integer.MIN_VALUE, Integer.MAX_VALUE}) {
            check.due("register(" + k + ")", board.register(k), 0);
        }
    }

    private static void asTheHostHasThem(Check check) {
        Code image = new Code().add(Asm.addi(10, 0, 50), Asm.addi(20, 0, 51), Asm.addi(17, 0, 1), Asm.ECALL);
        Code host = new Code().li(20, 7).create(16384, 32, Bench.IMAGE, 16, 0, 0, 0).enter(0, 100);
        EnclaveBoard board = Bench.inU(host, image);
        board.run(host.size() + 3);
        check.due("the enclave runs", board.state(2), 0);
        check.due("x10 in the stay", board.register(10), 0);
        check.due("x11 in the stay", board.register(11), 100);
        check.due("x17 in the stay", board.register(17), 2);
        check.due("x20 in the stay", board.register(20), 7);
        board.run(1);
        check.due("x10 behind", board.register(10), 0);
        check.due("x11 behind", board.register(11), 50);
        check.due("x17 behind", board.register(17), 2);
        check.due("x20 behind", board.register(20), 7);
    }
}
