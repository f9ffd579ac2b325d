import java.math.BigInteger;
import java.util.Random;

/** The eight instructions that divide: known answers, the edges of the divisor and dividend, and many pairs. */
public final class DivisionTest {
    private static final String[] NAMES = {"DIV", "DIVU", "REM", "REMU", "DIVW", "DIVUW", "REMW", "REMUW"};
    private static final long HIGH = Long.MIN_VALUE;

    public static void main(String[] args) {
        Check check = new Check("DivisionTest");
        ordinary(check);
        byZero(check);
        highestBit(check);
        greaterDivisor(check);
        overflow(check);
        aroundMultiples(check);
        manyPairs(check);
        check.end();
    }

    private static void ordinary(Check check) {
        known(check, 100, 7, 14, 14, 2, 2, 14, 14, 2, 2);
        known(check, 42, 42, 1, 1, 0, 0, 1, 1, 0, 0);
        known(check, 42, 1, 42, 42, 0, 0, 42, 42, 0, 0);
        known(check, 0, 5, 0, 0, 0, 0, 0, 0, 0, 0);
        known(check, -7, 2, -3, Long.MAX_VALUE - 3, -1, 1, -3, 0x7ffffffc, -1, 1);
        known(check, 0x100000007L, 0x200000003L, 0, 0, 0x100000007L, 0x100000007L, 2, 2, 1, 1);
    }

    private static void byZero(Check check) {
        for (long a : new long[] {0, 1, 7, -1, Long.MAX_VALUE, HIGH, HIGH + 1}) {
            known(check, a, 0, -1, -1, a, a, -1, -1, (int) a, (int) a);
        }
        known(check, 0x180000005L, 0x700000000L, 0, 0, 0x180000005L, 0x180000005L, -1, -1, -0x7ffffffbL, -0x7ffffffbL);
    }

    private static void highestBit(Check check) {
        known(check, -1, 1, -1, -1, 0, 0, -1, -1, 0, 0);
        known(check, -1, -1, 1, 1, 0, 0, 1, 1, 0, 0);
        known(check, -1, 2, 0, Long.MAX_VALUE, -1, 1, 0, 0x7fffffff, -1, 1);
        known(check, -1, 3, 0, 0x5555555555555555L, -1, 0, 0, 0x55555555, -1, 0);
        known(check, -1, 10, 0, 1844674407370955161L, -1, 5, 0, 429496729, -1, 5);
        known(check, -1, -2, 0, 1, -1, 1, 0, 1, -1, 1);
        known(check, -2, -1, 2, 0, 0, -2, 2, 0, 0, -2);
        known(check, HIGH, HIGH, 1, 1, 0, 0, -1, -1, 0, 0);
        known(check, -1, HIGH, 0, 1, -1, Long.MAX_VALUE, -1, -1, -1, -1);
        known(check, HIGH, Long.MAX_VALUE, -1, 1, -1, 1, 0, 0, 0, 0);
        known(check, HIGH, 3, -3074457345618258602L, 3074457345618258602L, -2, 2, 0, 0, 0, 0);
        known(check, -2, Long.MAX_VALUE, 0, 2, -2, 0, 2, 0, 0, -2);
        known(check, -3, Long.MAX_VALUE, 0, 1, -3, Long.MAX_VALUE - 1, 3, 0, 0, -3);
    }

    private static void greaterDivisor(Check check) {
        known(check, 3, 5, 0, 0, 3, 3, 0, 0, 3, 3);
        known(check, 5, -1, -5, 0, 0, 5, -5, 0, 0, 5);
        known(check, Long.MAX_VALUE, HIGH, 0, 0, Long.MAX_VALUE, Long.MAX_VALUE, -1, -1, -1, -1);
        known(check, HIGH, HIGH + 1, 1, 0, -1, HIGH, 0, 0, 0, 0);
        known(check, 0, -1, 0, 0, 0, 0, 0, 0, 0, 0);
    }

    private static void overflow(Check check) {
        known(check, HIGH, -1, HIGH, 0, 0, HIGH, 0, 0, 0, 0);
        known(check, Integer.MIN_VALUE, -1, 0x80000000L, 0, 0, Integer.MIN_VALUE,
                Integer.MIN_VALUE, 0, 0, Integer.MIN_VALUE);
    }

    /** Where the quotient grows by 1: one below a multiple of the divisor, at it, one above. */
    private static void aroundMultiples(Check check) {
        long[] divisors = {1, 2, 3, 5, 10, 0xffffL, 0x7fffffffL, 0x80000000L, 0xffffffffL, 0x100000001L,
            0x5555555555555555L, 0x5555555555555556L, Long.MAX_VALUE - 1, Long.MAX_VALUE, HIGH, HIGH + 1, -2, -1};
        for (long b : divisors) {
            long most = unsigned(-1).divide(unsigned(b)).longValue();
            for (long times : new long[] {1, 2, 3, most >>> 1, (most >>> 1) + 1, most - 1, most}) {
                for (int off = -1; off <= 1; off++) {
                    computed(check, b * times + off, b);
                }
            }
        }
    }

    private static void manyPairs(Check check) {
        Random random = new Random(5);
        for (int k = 0; k < 4000; k++) {
            long a = random.nextLong() >>> random.nextInt(64);
            long b = random.nextLong() >>> random.nextInt(64);
            computed(check, random.nextBoolean() ? a : -a, random.nextInt(4) != 0 ? b : -b);
        }
    }

    private static void computed(Check check, long a, long b) {
        known(check, a, b, computed(a, b, false, 64), computed(a, b, true, 64), rest(a, b, false, 64), rest(a, b, true, 64),
                computed(a, b, false, 32), computed(a, b, true, 32), rest(a, b, false, 32), rest(a, b, true, 32));
    }

    private static long computed(long a, long b, boolean withoutSign, int bits) {
        BigInteger divisor = number(b, withoutSign, bits);
        return divisor.signum() == 0 ? -1 : narrow(number(a, withoutSign, bits).divide(divisor), bits);
    }

    private static long rest(long a, long b, boolean withoutSign, int bits) {
        BigInteger divisor = number(b, withoutSign, bits);
        BigInteger dividend = number(a, withoutSign, bits);
        return narrow(divisor.signum() == 0 ? dividend : dividend.remainder(divisor), bits);
    }

    private static BigInteger number(long v, boolean withoutSign, int bits) {
        long seen = bits == 32 ? (int) v : v;
        return withoutSign ? BigInteger.valueOf(seen).mod(BigInteger.ONE.shiftLeft(bits)) : BigInteger.valueOf(seen);
    }

    private static BigInteger unsigned(long v) {
        return number(v, true, 64);
    }

    private static long narrow(BigInteger v, int bits) {
        return bits == 32 ? v.intValue() : v.longValue();
    }

    /** What is due in the order of NAMES. */
    private static void known(Check check, long a, long b, long... due) {
        Code code = new Code().li(20, 1024).add(Asm.ld(1, 20, 0), Asm.ld(2, 20, 8));
        for (int k = 0; k < NAMES.length; k++) {
            code.add(Asm.r(k < 4 ? 0x33 : 0x3b, 4 + k % 4, 1, 3 + k, 1, 2));
        }
        EnclaveBoard board = Bench.inM(code);
        board.poke(1024, a);
        board.poke(1032, b);
        check.due("STEPS of dividing " + a + " by " + b, board.run(code.size()), code.size());
        check.due("a FAULT of dividing " + a + " by " + b, board.state(1), 0);
        for (int k = 0; k < NAMES.length; k++) {
            check.due(NAMES[k] + " of " + a + ", " + b, board.register(3 + k), due[k]);
        }
    }
}
