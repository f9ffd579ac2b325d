/** Promises 3 and 4: poke and peek. */
public final class PokePeekTest {
    private static final int BASE = 16384;
    private static final int SHARED = 12288;

    public static void main(String[] args) {
        Check check = new Check("PokePeekTest");
        edges(check);
        lowestByteFirst(check);
        enclaves(check);
        downAndStopped(check);
        check.end();
    }

    private static void edges(Check check) {
        EnclaveBoard board = new EnclaveBoard(0);
        check.due("poke(0)", board.poke(0, 1), true);
        check.due("poke(65528)", board.poke(65528, Long.MIN_VALUE), true);
        check.due("peek(0)", board.peek(0), 1);
        check.due("peek(65528)", board.peek(65528), Long.MIN_VALUE);
        int[] wrong = {-8, -1, 1, 4, 7, 65529, 65532, 65535, 65536, 65544, 131072, Integer.MIN_VALUE, Integer.MAX_VALUE, Integer.MAX_VALUE - 7};
        for (int at : wrong) {
            check.due("poke(" + at + ")", board.poke(at, -1), false);
            check.due("peek(" + at + ")", board.peek(at), 0);
        }
        check.due("peek(0) behind wrong ones", board.peek(0), 1);
        check.due("peek(8) behind wrong ones", board.peek(8), 0);
        check.due("peek(65528) behind wrong ones", board.peek(65528), Long.MIN_VALUE);
    }

    private static void lowestByteFirst(Check check) {
        Code code = new Code().li(6, 1024).add(Asm.load(4, 7, 6, 0), Asm.load(4, 8, 6, 7), Asm.s(0, 6, 6, 9));
        EnclaveBoard board = Bench.inM(code);
        board.poke(1024, 0x0102030405060708L);
        board.poke(1032, 0x1111111111111111L);
        board.run(code.size());
        check.due("the byte at 1024", board.register(7), 8);
        check.due("the byte at 1031", board.register(8), 1);
        check.due("a byte stored at 1033", board.peek(1032), 0x1111111111110011L);
    }

    private static void enclaves(Check check) {
        Code host = new Code().create(BASE, 32, 0, 0, 0, SHARED, 8).call(3, 0);
        EnclaveBoard board = Bench.inU(host, new Code());
        for (int at = BASE - 8; at <= BASE + 32; at += 8) {
            board.poke(at, 7);
        }
        board.run(host.size() - 3);
        check.due("live", board.enclave(0, 0), 1);
        for (int at = BASE; at < BASE + 32; at += 8) {
            check.due("poke(" + at + ")", board.poke(at, 9), false);
            check.due("peek(" + at + ")", board.peek(at), 0);
        }
        check.due("nothing came", board.eye(0, 35), 0);
        check.due("ahead of it", board.peek(BASE - 8), 7);
        check.due("behind it", board.peek(BASE + 32), 7);
        check.due("poke ahead", board.poke(BASE - 8, 8), true);
        check.due("poke behind", board.poke(BASE + 32, 8), true);
        check.due("poke of what is shared", board.poke(SHARED, 6), true);
        check.due("peek of what is shared", board.peek(SHARED), 6);
        board.run(3);
        check.due("destroyed", board.enclave(0, 0), 0);
        check.due("peek behind DESTROY", board.peek(BASE), 0);
        check.due("poke behind DESTROY", board.poke(BASE, 5), true);
        check.due("peek of it", board.peek(BASE), 5);
    }

    private static void downAndStopped(Check check) {
        EnclaveBoard board = new EnclaveBoard(0);
        board.run(1);
        check.due("DOWN", board.state(1), 2);
        check.due("poke", board.poke(64, 3), true);
        check.due("peek", board.peek(64), 3);
    }
}
