import java.util.Random;

/** Random programs and calls on the board and on PlainBoard: all answers are the same. */
public final class RandomRunTest {
    private static final int RUNS = 1500;
    private static final int HOST = 4096;
    private static final int IMAGE = 8192;
    private static final long[] BASES = {16384, 16416, 16448, 16512, 16640, 20480, 32768, 49152, 8192, 4096, 12288, 65504, 65536, -32, 16390};
    private static final long[] SIZES = {32, 32, 32, 64, 64, 128, 256, 512, 4096, 16384, 48, 0, 32768};
    private static final long[] SHARES = {12288, 12288, 12352, 12296, 16384, 16416, 0, 65528, 61440, -8, 7};
    private static final long[] SHARE_SIZES = {0, 0, 8, 16, 64, 64, 128, 4096, 24, 8192};
    private static final int[] CSRS = {0x300, 0x340, 0x341, 0x342, 0x343, 0x3a0, 0x3a2, 0x3b0, 0x3b7, 0x3b8, 0x3b9, 0x3ba, 0x3bf, 0xb02, 0xf14, 0x301, 0x3a1};

    private final Random random;
    private final Check check;
    private final long seed;
    private final EnclaveBoard board;
    private final PlainBoard plain;

    private RandomRunTest(long seed, Check check) {
        this.seed = seed;
        this.check = check;
        random = new Random(seed);
        long secret = random.nextLong();
        board = new EnclaveBoard(secret);
        plain = new PlainBoard(secret);
    }

    public static void main(String[] args) {
        Check check = new Check("RandomRunTest");
        int first = args.length > 0 ? Integer.parseInt(args[0]) : 0;
        int runs = args.length > 1 ? Integer.parseInt(args[1]) : RUNS;
        for (int k = first; k < first + runs; k++) {
            new RandomRunTest(k, check).go();
        }
        check.end();
    }

    private void go() {
        put(0, firmware());
        put(HOST, host());
        put(IMAGE, image());
        int rounds = 4 + random.nextInt(8);
        for (int k = 0; k < rounds; k++) {
            int steps = pick(1, 2, 5, 20, 60, 200, 700);
            same("run(" + steps + ")", board.run(steps), plain.run(steps));
            compare();
            between();
        }
        look();
    }

    private void between() {
        int what = random.nextInt(24);
        if (what < 6) {
            board.interrupt();
            plain.interrupt();
        } else if (what < 9) {
            int at = pick(16384, 16392, 16416, 12288, 8192, 65528, 65536, -8, 4, 4096) + 8 * random.nextInt(8);
            long v = random.nextLong();
            same("poke(" + at + ")", board.poke(at, v) ? 1 : 0, plain.poke(at, v) ? 1 : 0);
        } else if (what == 9) {
            long pc = pick(0, 0, 0, HOST, 2, 65536, -1);
            board.reset(pc);
            plain.reset(pc);
        }
    }

    private void same(String what, long got, long want) {
        check.due("seed " + seed + ": " + what, got, want);
    }

    private void compare() {
        for (int what = -1; what < 10; what++) {
            same("state(" + what + ")", board.state(what), plain.state(what));
            same("held(" + what + ")", board.held(what), plain.held(what));
        }
        for (int k = 0; k < 32; k++) {
            same("register(" + k + ")", board.register(k), plain.register(k));
        }
        for (int i = 0; i < 16; i++) {
            same("pmp(" + i + ", 0)", board.pmp(i, 0), plain.pmp(i, 0));
            same("pmp(" + i + ", 1)", board.pmp(i, 1), plain.pmp(i, 1));
        }
        for (int e = 0; e < 6; e++) {
            for (int what = 0; what < 8; what++) {
                same("enclave(" + e + ", " + what + ")", board.enclave(e, what), plain.enclave(e, what));
            }
            for (int what = 0; what < 48; what++) {
                same("eye(" + e + ", " + what + ")", board.eye(e, what), plain.eye(e, what));
            }
        }
    }

    /** The memory, seen behind a reset too, which zeroes what enclaves had. */
    private void look() {
        for (int at = 0; at < 65536; at += 8) {
            same("peek(" + at + ")", board.peek(at), plain.peek(at));
        }
        board.reset(0);
        plain.reset(0);
        for (int at = 0; at < 65536; at += 8) {
            same("peek(" + at + ") behind reset", board.peek(at), plain.peek(at));
        }
    }

    private void put(int at, Code code) {
        for (int k = 0; k < code.size(); k += 2) {
            long v = (k + 1 < code.size() ? (long) code.word(k + 1) << 32 : 0) | code.word(k) & 0xffffffffL;
            board.poke(at + 4 * k, v);
            plain.poke(at + 4 * k, v);
        }
    }

    private int pick(int... from) {
        return from[random.nextInt(from.length)];
    }

    private long pick(long[] from) {
        return from[random.nextInt(from.length)];
    }

    private Code firmware() {
        Code code = new Code();
        int more = random.nextInt(6);
        for (int k = 0; k < more; k++) {
            code.li(6, random.nextInt(4) == 0 ? random.nextLong() : pick(BASES) / 4 + pick(0, 1, 3, 7, 15, 2047));
            code.add(Asm.csr(pick(1, 1, 1, 2, 3, 5), 7, 0x3b8 + random.nextInt(8), 6));
        }
        if (random.nextInt(8) == 0) {
            code.add(any(code));
        }
        if (random.nextInt(4) == 0) {
            // Holes in what the host may, where enclaves are asked for.
            code.csrw(0x3b8, (16384 + 4 * random.nextInt(64)) / 4).csrw(0x3b9, (12288 + 4 * random.nextInt(16)) / 4);
            code.csrw(0x3bf, -1).csrw(0x3a2, 0x1fL << 56 | pick(0, 0x11, 0x1b, 0x18, 0x19) | (long) pick(0, 0x0b, 0x09, 0x11) << 8);
        } else if (random.nextInt(8) != 0) {
            code.csrw(0x3bf, -1);
            long configs = 0x1fL << 56;
            for (int k = 0; k < more; k++) {
                configs |= (long) (random.nextInt(256) & pick(0x9f, 0x1f, 0x1f, 0xff)) << 8 * random.nextInt(7);
            }
            code.csrw(0x3a2, random.nextInt(3) == 0 ? 0x1fL << 56 : configs);
        }
        if (random.nextInt(8) == 0) {
            code.csrw(0x300, random.nextLong()).csrw(0x341, random.nextInt(2) == 0 ? code.bytes() + 24 : HOST).add(Asm.MRET);
        }
        return code.csrw(0x341, HOST).add(Asm.MRET).add(any(code), any(code));
    }

    private Code host() {
        Code code = new Code();
        int parts = 4 + random.nextInt(30);
        int row = random.nextInt(4) == 0 ? 7 : 0;
        for (int k = 0; k < row; k++) {
            code.create(16384 + 64 * k, pick(32, 64), IMAGE, 32, 0, pick(SHARES), pick(SHARE_SIZES));
        }
        for (int k = 0; k < parts; k++) {
            int what = random.nextInt(20);
            if (what < 7) {
                create(code);
            } else if (what < 14) {
                code.enter(pick(0, 0, 1, 2, 3, 6), pick(0, 1, 2, 3, 5, 20, -1));
            } else if (what == 14) {
                code.call(3, pick(0, 1, 2, -1, 6));
            } else if (what == 15) {
                code.call(4, pick(0, 1, 2, 3));
            } else if (what == 16) {
                code.call(pick(0, 5, 17, -1), 0);
            } else {
                soft(code, pick(12288, 12288, 12288, 12288, 8192, 8192, 16384));
            }
        }
        return code.add(Asm.jal(0, -code.bytes()));
    }

    private void create(Code code) {
        long size = pick(SIZES);
        long base = random.nextInt(3) > 0 && size > 0 ? 16384 + size * random.nextInt(8) : pick(BASES);
        long length = pick(0, 8, 16, 32, 32, 31, 64, 200);
        long image = random.nextInt(5) == 0 ? pick(BASES) + random.nextInt(9) : IMAGE + 8 * random.nextInt(4);
        code.create(base, size, image, Math.min(length, random.nextInt(8) == 0 ? length : size), pick(0, 0, 0, 4, 8, 2, 64),
                pick(SHARES), pick(SHARE_SIZES));
    }

    private Code image() {
        Code code = new Code();
        int parts = 2 + random.nextInt(20);
        for (int k = 0; k < parts; k++) {
            int what = random.nextInt(10);
            if (what < 2) {
                code.add(Asm.addi(17, 0, pick(1, 1, 2, 3, 4)), Asm.ECALL);
            } else if (what < 4) {
                code.add(Asm.auipc(6, 0), Asm.i(0x13, 7, 6, 6, -32), Asm.sd(5, 6, pick(24, 24, 24, 16, 32, -8, 4)));
            } else if (what == 4) {
                code.add(Asm.jal(0, -4 * pick(0, 1, 2, 3)));
            } else if (what == 5 && random.nextInt(3) == 0) {
                code.add(any(code));
            } else if (what == 6 && random.nextInt(3) == 0) {
                soft(code, pick(12288, 16384, 12352));
            } else {
                code.add(Asm.r(0x33, random.nextInt(8), pick(0, 1), pick(5, 7, 10, 11), pick(5, 7, 10), pick(5, 7, 11)), Asm.addi(5, 5, 3));
            }
        }
        return code.add(Asm.jal(0, -code.bytes()));
    }

    /** Instructions that seldom end in a FAULT. */
    private void soft(Code code, int near) {
        int rd = pick(5, 7, 8, 9, 18, 19, 20, 0);
        int a = pick(5, 7, 8, 9, 18, 19, 20, 10, 11);
        int b = pick(5, 7, 8, 9, 18, 19, 20, 0);
        switch (random.nextInt(8)) {
            case 0: code.add(Asm.r(0x33, random.nextInt(8), pick(0, 1), rd, a, b)); break;
            case 1: code.add(Asm.r(0x3b, pick(0, 5), pick(0, 1, 0x20), rd, a, b)); break;
            case 2: code.add(Asm.i(0x13, pick(0, 2, 3, 4, 6, 7), rd, a, random.nextInt(4096))); break;
            case 3: code.add(Asm.addi(rd, a, 1), Asm.branch(pick(0, 1, 4, 5, 6, 7), a, b, 8), Asm.NOP); break;
            case 4: code.li(6, near).add(Asm.sd(a, 6, 8 * random.nextInt(4))); break;
            case 5: code.li(6, near).add(Asm.load(random.nextInt(7), rd, 6, 8 * random.nextInt(4))); break;
            case 6: code.li(rd, random.nextLong()); break;
            default: code.add(pick(Asm.FENCE, Asm.FENCE_I, Asm.WFI, Asm.NOP)); break;
        }
    }

    /** Any word at all, often near to an instruction. */
    private int any(Code code) {
        int rd = random.nextInt(32);
        int a = random.nextInt(32);
        switch (random.nextInt(8)) {
            case 0: return random.nextInt();
            case 1: return Asm.csr(random.nextInt(8), rd, CSRS[random.nextInt(CSRS.length)], a);
            case 2: return Asm.i(0x73, 0, 0, 0, random.nextInt(4096));
            case 3: return Asm.load(random.nextInt(8), rd, a, random.nextInt(64));
            case 4: return Asm.s(random.nextInt(5), a, rd, random.nextInt(64));
            case 5: return random.nextInt() & ~0x7f | pick(0x13, 0x1b, 0x33, 0x3b, 0x63, 0x67, 0x6f);
            case 6: return pick(Asm.EBREAK, Asm.MRET, Asm.ECALL, 0);
            default: return Asm.jalr(rd, a, random.nextInt(16));
        }
    }
}
