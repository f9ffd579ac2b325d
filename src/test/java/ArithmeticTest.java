import java.math.BigInteger;

/** What the instructions of RV64I and M compute, against numbers of any size. */
public final class ArithmeticTest {
    private static final long[] NUMBERS = {
        0, 1, 2, 3, 31, 32, 63, 64, -1, -2, -3, 0x7fffffffL, 0x80000000L, 0xffffffffL, -0x80000000L, 0x100000000L,
        Long.MAX_VALUE, Long.MIN_VALUE, Long.MIN_VALUE + 1, 0x123456789abcdef0L, -0x123456789abcdef0L, 0x7fffffff80000000L
    };
    private static final BigInteger TWO_64 = BigInteger.ONE.shiftLeft(64);

    public static void main(String[] args) {
        Check check = new Check("ArithmeticTest");
        for (long a : NUMBERS) {
            for (long b : NUMBERS) {
                registers(check, a, b);
            }
            immediates(check, a);
        }
        upper(check);
        check.end();
    }

    private static long compute(int word, long a, long b) {
        EnclaveBoard board = Bench.inM(new Code().li(20, 1024).add(Asm.ld(1, 20, 0), Asm.ld(2, 20, 8), word));
        board.poke(1024, a);
        board.poke(1032, b);
        board.run(4);
        if (board.state(1) != 0) {
            throw new IllegalStateException("a FAULT by " + Integer.toHexString(word));
        }
        return board.register(3);
    }

    private static void registers(Check check, long a, long b) {
        for (int kind = 0; kind < 8; kind++) {
            both(check, kind, 0, a, b, basic(kind, false, a, b));
            both(check, kind, 1, a, b, multiplied(kind, a, b, 64));
            if (kind == 0 || kind == 5) {
                both(check, kind, 0x20, a, b, basic(kind, true, a, b));
                word(check, kind, 0x20, a, b, basicWord(kind, true, (int) a, (int) b));
            }
            if (kind == 0 || kind == 1 || kind == 5) {
                word(check, kind, 0, a, b, basicWord(kind, false, (int) a, (int) b));
            }
            if (kind == 0 || kind >= 4) {
                word(check, kind, 1, a, b, (int) multiplied(kind, (int) a, (int) b, 32));
            }
        }
    }

    private static void both(Check check, int kind, int family, long a, long b, long want) {
        check.due("OP " + kind + "/" + family + " of " + a + ", " + b, compute(Asm.r(0x33, kind, family, 3, 1, 2), a, b), want);
    }

    private static void word(Check check, int kind, int family, long a, long b, long want) {
        check.due("OP-32 " + kind + "/" + family + " of " + a + ", " + b, compute(Asm.r(0x3b, kind, family, 3, 1, 2), a, b), want);
    }

    private static void immediates(Check check, long a) {
        for (int imm : new int[] {0, 1, 5, 31, 32, 63, 2047, -1, -2048}) {
            for (int kind = 0; kind < 8; kind++) {
                if (kind != 1 && kind != 5) {
                    check.due("OP-IMM " + kind + " of " + a + ", " + imm,
                            compute(Asm.i(0x13, kind, 3, 1, imm), a, 0), basic(kind, false, a, imm));
                }
            }
            check.due("ADDIW of " + a + ", " + imm, compute(Asm.addiw(3, 1, imm), a, 0), (int) (a + imm));
        }
        for (int shift = 0; shift < 64; shift++) {
            check.due("SLLI " + shift, compute(Asm.i(0x13, 1, 3, 1, shift), a, 0), basic(1, false, a, shift));
            check.due("SRLI " + shift, compute(Asm.i(0x13, 5, 3, 1, shift), a, 0), basic(5, false, a, shift));
            check.due("SRAI " + shift, compute(Asm.i(0x13, 5, 3, 1, 0x400 | shift), a, 0), basic(5, true, a, shift));
            if (shift < 32) {
                check.due("SLLIW " + shift, compute(Asm.i(0x1b, 1, 3, 1, shift), a, 0), basicWord(1, false, (int) a, shift));
                check.due("SRLIW " + shift, compute(Asm.i(0x1b, 5, 3, 1, shift), a, 0), basicWord(5, false, (int) a, shift));
                check.due("SRAIW " + shift, compute(Asm.i(0x1b, 5, 3, 1, 0x400 | shift), a, 0), basicWord(5, true, (int) a, shift));
            }
        }
    }

    private static void upper(Check check) {
        check.due("LUI", compute(Asm.lui(3, 0x7ffff), 0, 0), 0x7ffff000L);
        check.due("LUI below 0", compute(Asm.lui(3, 0x80000), 0, 0), -0x80000000L);
        EnclaveBoard board = Bench.inM(new Code().add(Asm.NOP, Asm.auipc(3, 0x80000), Asm.auipc(4, 1), Asm.lui(0, 5)));
        board.run(4);
        check.due("AUIPC below 0", board.register(3), 4 - 0x80000000L);
        check.due("AUIPC", board.register(4), 8 + 4096);
        check.due("x0", board.register(0), 0);
    }

    private static BigInteger unsigned(long v) {
        return BigInteger.valueOf(v).mod(TWO_64);
    }

    private static long basic(int kind, boolean other, long a, long b) {
        BigInteger x = BigInteger.valueOf(a);
        BigInteger y = BigInteger.valueOf(b);
        int shift = y.mod(BigInteger.valueOf(64)).intValue();
        switch (kind) {
            case 0: return (other ? x.subtract(y) : x.add(y)).longValue();
            case 1: return x.shiftLeft(shift).longValue();
            case 2: return x.compareTo(y) < 0 ? 1 : 0;
            case 3: return unsigned(a).compareTo(unsigned(b)) < 0 ? 1 : 0;
            case 4: return x.xor(y).longValue();
            case 5: return (other ? x : unsigned(a)).shiftRight(shift).longValue();
            case 6: return x.or(y).longValue();
            default: return x.and(y).longValue();
        }
    }

    private static long basicWord(int kind, boolean other, int a, int b) {
        BigInteger x = BigInteger.valueOf(a);
        int shift = b & 31;
        switch (kind) {
            case 0: return (other ? x.subtract(BigInteger.valueOf(b)) : x.add(BigInteger.valueOf(b))).intValue();
            case 1: return x.shiftLeft(shift).intValue();
            default: return (other ? x : BigInteger.valueOf(a & 0xffffffffL)).shiftRight(shift).intValue();
        }
    }

    private static long multiplied(int kind, long a, long b, int bits) {
        BigInteger all = BigInteger.ONE.shiftLeft(bits);
        BigInteger x = BigInteger.valueOf(a);
        BigInteger y = BigInteger.valueOf(b);
        BigInteger ux = x.mod(all);
        BigInteger uy = y.mod(all);
        switch (kind) {
            case 0: return x.multiply(y).longValue();
            case 1: return x.multiply(y).shiftRight(bits).longValue();
            case 2: return x.multiply(uy).shiftRight(bits).longValue();
            case 3: return ux.multiply(uy).shiftRight(bits).longValue();
            case 4: return b == 0 ? -1 : x.divide(y).longValue();
            case 5: return b == 0 ? -1 : ux.divide(uy).longValue();
            case 6: return b == 0 ? a : x.remainder(y).longValue();
            default: return b == 0 ? a : ux.remainder(uy).longValue();
        }
    }
}
