import java.util.Random;

/** Random calls, many with arguments from far away: none throws, and each answers as PlainBoard does. */
public final class AnyCallTest {
    private static final int RUNS = 2000;
    // The document promises nothing of later calls.
    private static final int CALLS = 512;
    private static final int FACTS = 9;
    private static final int[] EDGES = {
        Integer.MIN_VALUE, Integer.MIN_VALUE + 8, Integer.MIN_VALUE + 35, -65536, -8, -1, 0, 1, 5, 6, 7, 8, 15, 16, 31, 32, 33, 34, 35, 36, 38, 39, 66, 67,
        16384, 65528, 65536, 65536 + 8, 1 << 30, Integer.MAX_VALUE - 7, Integer.MAX_VALUE
    };
    private static final long[] FAR = {0, 1, 2, 4, -4, -1, 4096, 65532, 65536, 1L << 32, (1L << 32) + 4096, Long.MIN_VALUE, Long.MAX_VALUE};

    private final Random random;
    private final Check check;
    private final long seed;
    private final EnclaveBoard board;
    private final PlainBoard plain;
    private int calls;

    private AnyCallTest(long seed, Check check) {
        this.seed = seed;
        this.check = check;
        random = new Random(seed);
        long secret = random.nextLong();
        board = new EnclaveBoard(secret);
        plain = new PlainBoard(secret);
    }

    public static void main(String[] args) {
        Check check = new Check("AnyCallTest");
        int first = args.length > 0 ? Integer.parseInt(args[0]) : 0;
        int runs = args.length > 1 ? Integer.parseInt(args[1]) : RUNS;
        for (int k = first; k < first + runs; k++) {
            new AnyCallTest(k, check).go();
        }
        check.end();
    }

    private void go() {
        calls = put(0, Bench.openFirmware()) + put(Bench.HOST, host()) + put(Bench.IMAGE, image());
        while (calls + 1 + FACTS <= CALLS) {
            call();
        }
    }

    private void call() {
        calls++;
        int a = any();
        int b = any();
        switch (random.nextInt(15)) {
            case 0: same("poke", a, b, board.poke(a, b) ? 1 : 0, plain.poke(a, b) ? 1 : 0); break;
            case 1: same("peek", a, 0, board.peek(a), plain.peek(a)); break;
            case 2: board.interrupt(); plain.interrupt(); break;
            case 3: same("register", a, 0, board.register(a), plain.register(a)); break;
            case 4: same("state", a, 0, board.state(a), plain.state(a)); break;
            case 5: same("held", a, 0, board.held(a), plain.held(a)); break;
            case 6: same("pmp", a, b, board.pmp(a, b), plain.pmp(a, b)); break;
            case 7: same("enclave", a, b, board.enclave(a, b), plain.enclave(a, b)); break;
            case 8: same("eye", a, b, board.eye(a, b), plain.eye(a, b)); break;
            case 9: same("eye", b & 1, a, board.eye(b & 1, a), plain.eye(b & 1, a)); break;
            case 10: reset(); break;
            default: run(random.nextInt(4) == 0 ? a : 1 + random.nextInt(40)); break;
        }
    }

    private void run(int steps) {
        same("run", steps, 0, board.run(steps), plain.run(steps));
        for (int what = 0; what < FACTS; what++) {
            same("state", what, 0, board.state(what), plain.state(what));
        }
        calls += FACTS;
    }

    /** Seldom, and mostly to the firmware, so that states of all kinds come about between two of them. */
    private void reset() {
        if (random.nextInt(3) == 0) {
            long pc = random.nextInt(4) == 0 ? FAR[random.nextInt(FAR.length)] : 0;
            board.reset(pc);
            plain.reset(pc);
        }
    }

    private int any() {
        switch (random.nextInt(4)) {
            case 0: return EDGES[random.nextInt(EDGES.length)];
            case 1: return random.nextInt();
            default: return random.nextInt(40);
        }
    }

    private void same(String call, int a, int b, long got, long want) {
        check.due("seed " + seed + ": " + call + "(" + a + ", " + b + ")", got, want);
    }

    private int put(int at, Code code) {
        code.into(board, at);
        for (int k = 0; k < code.size(); k += 2) {
            long high = k + 1 < code.size() ? code.word(k + 1) : 0;
            plain.poke(at + 4 * k, high << 32 | code.word(k) & 0xffffffffL);
        }
        return (code.size() + 1) / 2;
    }

    /** Makes two enclaves, then goes round and round through CALLS, some with arguments from far away. */
    private Code host() {
        Code code = new Code().create(Bench.BASE, 256, Bench.IMAGE, 64, 0, Bench.SHARED, 64)
                .create(Bench.BASE + 256, 32, Bench.IMAGE, 32, 0, 0, 0);
        int start = code.bytes();
        for (int k = 0; k < 8; k++) {
            int what = random.nextInt(10);
            if (what < 5) {
                code.enter(random.nextInt(2), random.nextInt(30));
            } else if (what < 6) {
                code.call(random.nextInt(6), far(), far(), far(), far(), far(), far(), far());
            } else if (what < 9) {
                createAndDestroy(code);
            } else {
                code.call(3 + random.nextInt(2), random.nextInt(3));
            }
        }
        return code.add(Asm.jal(0, start - code.bytes()));
    }

    /** All arguments but one are told rightly, so that this one decides. */
    private void createAndDestroy(Code code) {
        long[] told = {32768, 64, Bench.IMAGE, 64, 0, Bench.SHARED, 64};
        told[random.nextInt(told.length)] = far();
        code.call(1, told).add(Asm.addi(17, 0, 3), Asm.ECALL);
    }

    private long far() {
        return random.nextInt(3) == 0 ? random.nextLong() : FAR[random.nextInt(FAR.length)];
    }

    private Code image() {
        Code code = new Code();
        for (int k = 0; k < 7; k++) {
            int what = random.nextInt(8);
            if (what == 0) {
                code.add(random.nextInt());
            } else if (what < 3) {
                code.add(Asm.addi(17, 0, 1 + random.nextInt(4)), Asm.ECALL);
            } else {
                code.add(Asm.r(0x33, random.nextInt(8), random.nextInt(2), 31, 31, 6), Asm.addi(6, 6, random.nextInt(4096)));
            }
        }
        return code.add(Asm.jal(0, -code.bytes()));
    }
}
