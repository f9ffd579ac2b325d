/** Promises 10, 11 and 12: pmp, enclave and eye as views of enclaves. */
public final class EnclaveViewTest {
    private static final int SECRET = 99;
    private static final int BASE = 16384;
    private static final int SHARED = 12288;

    public static void main(String[] args) {
        Check check = new Check("EnclaveViewTest");
        newAndRunningAndLeft(check);
        withoutShare(check);
        wrongArguments(check);
        faulted(check);
        check.end();
    }

    private static Code image() {
        return new Code().add(0x11111111, 0x22222222, Asm.addi(5, 0, 77), Asm.jal(0, 0));
    }

    private static void newAndRunningAndLeft(Check check) {
        Code made = new Code().create(BASE, 128, Bench.IMAGE, 16, 8, SHARED, 64).create(BASE + 256, 32, 0, 0, 4, 0, 0);
        Code host = new Code().create(BASE, 128, Bench.IMAGE, 16, 8, SHARED, 64).create(BASE + 256, 32, 0, 0, 4, 0, 0).enter(0, 3);
        EnclaveBoard board = Bench.inU(SECRET, Bench.openFirmware(), host, image());
        board.run(made.size());
        facts(check, board, 1, 0, 0);
        entries(check, board, false);
        check.due("pc of a NEW one", board.eye(0, 32), BASE + 8);
        check.due("x5 of a NEW one", board.eye(0, 5), 0);
        board.run(host.size() - made.size() + 1);
        facts(check, board, 4, 1, 1);
        entries(check, board, true);
        check.due("pc of a running one", board.eye(0, 32), BASE + 12);
        check.due("x5 of a running one", board.eye(0, 5), 77);
        board.run(2);
        facts(check, board, 2, 1, 3);
        entries(check, board, false);
        check.due("x5 of one that LEFT", board.eye(0, 5), 77);
        check.due("MEASURE", board.eye(0, 33), measure(image(), 128, 8, 64));
        check.due("KEY", board.eye(0, 34), key(SECRET, board.eye(0, 33)));
        check.due("MEASURE of no image", board.eye(1, 33), measure(new Code(), 32, 4, 0));
        check.due("memory 0", board.eye(0, 35), 0x2222222211111111L);
        check.due("memory 1", board.eye(0, 36), (long) image().word(3) << 32 | image().word(2));
        check.due("memory 15", board.eye(0, 35 + 15), 0);
        check.due("no memory 16", board.eye(0, 35 + 16), 0);
        check.due("no memory far off", board.eye(0, Integer.MAX_VALUE), 0);
    }

    private static void facts(Check check, EnclaveBoard board, int status, int stays, int steps) {
        int[] want = {status, BASE, 128, 8, SHARED, 64, stays, steps, 0};
        for (int what = 0; what < want.length; what++) {
            check.due("enclave(0, " + what + ")", board.enclave(0, what), want[what]);
        }
    }

    private static void entries(Check check, EnclaveBoard board, boolean runs) {
        check.due("byte 0", board.pmp(0, 0), runs ? 0x1f : 0x18);
        check.due("address 0", board.pmp(0, 1), BASE / 4 + 15);
        check.due("byte 1", board.pmp(1, 0), 0x18);
        check.due("address 1", board.pmp(1, 1), (BASE + 256) / 4 + 3);
        for (int i = 2; i < 6; i++) {
            check.due("byte " + i, board.pmp(i, 0), 0);
            check.due("address " + i, board.pmp(i, 1), 0);
        }
        check.due("byte 6", board.pmp(6, 0), runs ? 0x1b : 0);
        check.due("address 6", board.pmp(6, 1), runs ? SHARED / 4 + 7 : 0);
        check.due("byte 7", board.pmp(7, 0), runs ? 0x18 : 0);
        check.due("address 7", board.pmp(7, 1), runs ? Bench.ALL : 0);
        check.due("byte 8", board.pmp(8, 0), 0x1f);
        check.due("address 8", board.pmp(8, 1), Bench.ALL);
    }

    private static void withoutShare(Check check) {
        Code host = new Code().create(BASE, 32, 0, 0, 0, SHARED, 0).enter(0, 0);
        EnclaveBoard board = Bench.inU(host, new Code());
        board.run(host.size());
        check.due("runs", board.state(2), 0);
        check.due("shares nothing", board.enclave(0, 4), 0);
        check.due("of size 0", board.enclave(0, 5), 0);
        check.due("byte 6", board.pmp(6, 0), 0);
        check.due("address 6", board.pmp(6, 1), 0);
        check.due("byte 7", board.pmp(7, 0), 0x18);
    }

    private static void wrongArguments(Check check) {
        EnclaveBoard board = Bench.afterU(new Code().create(BASE, 32, 0, 0, 4, 0, 0));
        for (int e : new int[] {-1, 1, 5, 6, 16, Integer.MIN_VALUE, Integer.MAX_VALUE}) {
            for (int what = -1; what < 40; what++) {
                check.due("enclave(" + e + ", " + what + ")", board.enclave(e, what), 0);
                check.due("eye(" + e + ", " + what + ")", board.eye(e, what), 0);
            }
        }
        for (int what : new int[] {-1, 8, Integer.MIN_VALUE, Integer.MAX_VALUE}) {
            check.due("enclave(0, " + what + ")", board.enclave(0, what), 0);
        }
        for (int what : new int[] {-1, -36, Integer.MIN_VALUE}) {
            check.due("eye(0, " + what + ")", board.eye(0, what), 0);
        }
        for (int i : new int[] {-1, 16, Integer.MIN_VALUE, Integer.MAX_VALUE}) {
            check.due("pmp(" + i + ", 0)", board.pmp(i, 0), 0);
            check.due("pmp(" + i + ", 1)", board.pmp(i, 1), 0);
        }
        for (int what : new int[] {-1, 2, Integer.MIN_VALUE, Integer.MAX_VALUE}) {
            check.due("pmp(8, " + what + ")", board.pmp(8, what), 0);
        }
    }

    private static void faulted(Check check) {
        Code host = new Code().create(BASE, 32, Bench.IMAGE, 8, 0, 0, 0).enter(0, 0);
        EnclaveBoard board = Bench.inU(host, new Code().add(Asm.addi(9, 0, 4), Asm.EBREAK));
        board.run(host.size() + 2);
        check.due("FAULTED", board.enclave(0, 0), 3);
        check.due("steps with the one of the FAULT", board.enclave(0, 7), 2);
        check.due("pc", board.eye(0, 32), BASE + 4);
        check.due("x9", board.eye(0, 9), 4);
        check.due("byte 0", board.pmp(0, 0), 0x18);
    }

    static long measure(Code image, long... numbers) {
        long it = 0xcbf29ce484222325L;
        for (int k = 0; k < image.size(); k++) {
            it = mix(it, image.word(k), 4);
        }
        for (long number : numbers) {
            it = mix(it, number, 8);
        }
        return it;
    }

    private static long mix(long it, long v, int bytes) {
        for (int i = 0; i < bytes; i++) {
            it = (it ^ (v >>> 8 * i & 0xff)) * 0x100000001b3L;
        }
        return it;
    }

    static long key(long secret, long measure) {
        long k = secret ^ measure;
        k = (k ^ (k >>> 33)) * 0xff51afd7ed558ccdL;
        k = (k ^ (k >>> 33)) * 0xc4ceb9fe1a85ec53L;
        return k ^ (k >>> 33);
    }
}
