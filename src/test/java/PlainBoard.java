import java.math.BigInteger;

/**
 * A second board, written word by word after the document and without a care for speed:
 * bytes of memory, PMP asked byte by byte, arithmetic by numbers of any size.
 */
final class PlainBoard {
    private static final class Fault extends RuntimeException {
        private static final long serialVersionUID = 1;
        final int number;
        final long value;

        Fault(int number, long value) {
            super(null, null, false, false);
            this.number = number;
            this.value = value;
        }
    }

    private static final class Inmate {
        long[] x = new long[32];
        long pc;
        String status = "NEW";
        long base, size, entry, shared, sharedSize, measure, key;
        int stays, steps;
    }

    private static final String[] STATUS = {"", "NEW", "LEFT", "FAULTED", "RUNS"};

    private final long secret;
    private final byte[] memory = new byte[65536];
    private long[] x = new long[32];
    private long pc;
    private boolean modeM = true;
    private String condition = "GOES";
    private int faultNumber = -1;
    private long faultValue;
    private long mstatus, mscratch, mepc, mcause, mtval;
    private final int[] cfg = new int[16];
    private final long[] addr = new long[16];
    private Inmate[] inmates = new Inmate[6];
    private int runner = -1;
    private BigInteger left;
    private boolean raised;
    private int steps, creates, stays, interrupted, hostInterrupts;

    PlainBoard(long secret) {
        this.secret = secret;
    }

    void reset(long start) {
        for (int e = 0; e < 6; e++) {
            destroy(e);
        }
        x = new long[32];
        pc = start;
        modeM = true;
        condition = "GOES";
        faultNumber = -1;
        faultValue = mstatus = mscratch = mepc = mcause = mtval = 0;
        java.util.Arrays.fill(cfg, 0);
        java.util.Arrays.fill(addr, 0);
        runner = -1;
        raised = false;
        steps = creates = stays = interrupted = hostInterrupts = 0;
    }

    private boolean closed(int at) {
        if (at < 0 || at % 8 != 0 || at > 65528) {
            return true;
        }
        for (Inmate one : inmates) {
            for (int k = 0; one != null && k < 8; k++) {
                if (at + k >= one.base && at + k < one.base + one.size) {
                    return true;
                }
            }
        }
        return false;
    }

    boolean poke(int at, long v) {
        if (closed(at)) {
            return false;
        }
        put(at, 8, v);
        return true;
    }

    long peek(int at) {
        return closed(at) ? 0 : get(at, 8);
    }

    void interrupt() {
        raised = true;
    }

    int run(int most) {
        if (most < 1 || most > 5000) {
            return -1;
        }
        for (int done = 0; done < most; done++) {
            if (!condition.equals("GOES")) {
                return done;
            }
            step();
        }
        return most;
    }

    long register(int k) {
        return k >= 0 && k < 32 ? x[k] : 0;
    }

    int state(int what) {
        int[] all = {modeM ? 3 : 0, condition.equals("GOES") ? 0 : condition.equals("STOPPED") ? 1 : 2, runner, faultNumber,
            steps, creates, stays, interrupted, hostInterrupts};
        return what >= 0 && what < all.length ? all[what] : -1;
    }

    long held(int what) {
        long[] all = {pc, faultValue, mstatus, mscratch, mepc, mcause, mtval};
        return what >= 0 && what < all.length ? all[what] : 0;
    }

    long pmp(int i, int what) {
        return i < 0 || i > 15 ? 0 : what == 0 ? config(i) : what == 1 ? address(i) : 0;
    }

    int enclave(int e, int what) {
        if (e < 0 || e > 5 || inmates[e] == null) {
            return 0;
        }
        Inmate one = inmates[e];
        long[] all = {java.util.Arrays.asList(STATUS).indexOf(one.status), one.base, one.size, one.entry, one.shared, one.sharedSize, one.stays, one.steps};
        return what >= 0 && what < all.length ? (int) all[what] : 0;
    }

    long eye(int e, int what) {
        if (e < 0 || e > 5 || inmates[e] == null || what < 0) {
            return 0;
        }
        Inmate one = inmates[e];
        if (what < 35) {
            return what < 32 ? one.x[what] : what == 32 ? one.pc : what == 33 ? one.measure : one.key;
        }
        long off = 8L * (what - 35);
        return off + 8 <= one.size ? get((int) (one.base + off), 8) : 0;
    }

    // ---- memory and PMP

    private long get(int at, int size) {
        long v = 0;
        for (int k = size - 1; k >= 0; k--) {
            v = v << 8 | memory[at + k] & 0xff;
        }
        return v;
    }

    private void put(int at, int size, long v) {
        for (int k = 0; k < size; k++) {
            memory[at + k] = (byte) (v >>> 8 * k);
        }
    }

    /** The monitor's entries are not kept here, but read off what lives and runs. */
    private int config(int i) {
        if (i >= 8) {
            return cfg[i];
        }
        if (i < 6) {
            return inmates[i] == null ? 0 : i == runner ? 0x1f : 0x18;
        }
        return runner < 0 ? 0 : i == 7 ? 0x18 : inmates[runner].sharedSize == 0 ? 0 : 0x1b;
    }

    private long address(int i) {
        if (i >= 8) {
            return addr[i];
        }
        if (config(i) == 0) {
            return 0;
        }
        if (i == 7) {
            return (1L << 54) - 1;
        }
        long base = i == 6 ? inmates[runner].shared : inmates[i].base;
        long size = i == 6 ? inmates[runner].sharedSize : inmates[i].size;
        return (base + size / 2 - 1) >> 2;
    }

    private boolean has(int i, long at) {
        long unit = at >> 2;
        switch (config(i) >> 3 & 3) {
            case 0: return false;
            case 1: return unit < address(i) && unit >= (i == 0 ? 0 : address(i - 1));
            case 2: return unit == address(i);
            default:
                for (int bit = 0; bit < 54; bit++) {
                    if ((address(i) >> bit & 1) == 0) {
                        return unit >> bit + 1 == address(i) >> bit + 1;
                    }
                }
                return true;
        }
    }

    private boolean lets(BigInteger at, int size, int right) {
        if (at.add(BigInteger.valueOf(size)).compareTo(BigInteger.valueOf(65536)) > 0) {
            return false;
        }
        for (int i = 0; i < 16; i++) {
            int count = 0;
            for (int k = 0; k < size; k++) {
                count += has(i, at.longValue() + k) ? 1 : 0;
            }
            if (count > 0) {
                return count == size && (modeM && config(i) < 0x80 || (config(i) >> right & 1) == 1);
            }
        }
        return modeM;
    }

    private static BigInteger unsigned(long v) {
        return new BigInteger(Long.toUnsignedString(v));
    }

    // ---- one STEP

    private void step() {
        if (raised) {
            raised = false;
            if (runner >= 0) {
                leave(1, 0);
            } else {
                hostInterrupts++;
            }
        }
        int who = runner;
        long[] own = who < 0 ? x : inmates[who].x;
        long at = who < 0 ? pc : inmates[who].pc;
        int before = steps++;
        if (who >= 0) {
            inmates[who].steps++;
        }
        try {
            long next = instruction(own, at, before);
            own[0] = 0;
            if (who >= 0) {
                inmates[who].pc = next;
            } else {
                pc = next;
            }
        } catch (Fault fault) {
            take(fault, who);
        }
        if (who >= 0 && runner == who && left != null) {
            left = left.subtract(BigInteger.ONE);
            if (left.signum() == 0) {
                leave(1, 0);
            }
        }
    }

    private void take(Fault fault, int who) {
        if (who >= 0) {
            if (fault.number == 11) {
                inmates[who].pc += 4;
                enclaveCall(inmates[who]);
            } else {
                leave(2, fault.number);
            }
        } else if (!modeM && fault.number == 11) {
            hostCall();
            x[0] = 0;
            pc += 4;
        } else {
            faultNumber = fault.number;
            faultValue = fault.value;
            condition = modeM ? "DOWN" : "STOPPED";
            if (modeM) {
                mepc = pc - (pc & 3);
                mcause = fault.number;
                mtval = fault.value;
            }
        }
    }

    private static long signed(long v, int bits) {
        return v << 64 - bits >> 64 - bits;
    }

    private long instruction(long[] r, long at, int before) {
        if (at % 4 != 0) {
            throw new Fault(0, at);
        }
        if (!lets(unsigned(at), 4, 2)) {
            throw new Fault(1, at);
        }
        long w = get((int) at, 4);
        int rd = (int) (w >> 7 & 31);
        int f3 = (int) (w >> 12 & 7);
        int rs1 = (int) (w >> 15 & 31);
        int rs2 = (int) (w >> 20 & 31);
        int f7 = (int) (w >> 25);
        long imm = signed(w >> 20, 12);
        switch ((int) (w & 127)) {
            case 0b0110111: r[rd] = signed(w & 0xfffff000L, 32); return at + 4;
            case 0b0010111: r[rd] = at + signed(w & 0xfffff000L, 32); return at + 4;
            case 0b1101111: {
                long off = (w >> 31) << 20 | (w >> 12 & 255) << 12 | (w >> 20 & 1) << 11 | (w >> 21 & 1023) << 1;
                return jump(r, rd, at, at + signed(off, 21));
            }
            case 0b1100111:
                if (f3 != 0) {
                    throw new Fault(2, w);
                }
                return jump(r, rd, at, (r[rs1] + imm) / 2 * 2 - ((r[rs1] + imm) < 0 && (r[rs1] + imm) % 2 != 0 ? 2 : 0));
            case 0b1100011: {
                long off = (w >> 31) << 12 | (w >> 7 & 1) << 11 | (w >> 25 & 63) << 5 | (w >> 8 & 15) << 1;
                if (!taken(f3, r[rs1], r[rs2], w)) {
                    return at + 4;
                }
                return jump(r, 0, at, at + signed(off, 13));
            }
            case 0b0000011: load(r, rd, f3, r[rs1] + imm, w); return at + 4;
            case 0b0100011: store(f3, r[rs1] + signed(f7 << 5 | rd, 12), r[rs2], w); return at + 4;
            case 0b0010011: {
                boolean shift = f3 == 1 || f3 == 5;
                int top = shift ? f7 >> 1 << 1 : 0;
                r[rd] = basic(f3, top, r[rs1], shift ? imm & 63 : imm, w);
                return at + 4;
            }
            case 0b0011011:
                if (f3 != 0 && f3 != 1 && f3 != 5) {
                    throw new Fault(2, w);
                }
                r[rd] = word(f3, f3 == 0 ? 0 : f7, r[rs1], f3 == 0 ? imm : rs2, w);
                return at + 4;
            case 0b0110011: r[rd] = f7 == 1 ? product(f3, r[rs1], r[rs2], 64) : basic(f3, f7, r[rs1], r[rs2], w); return at + 4;
            case 0b0111011:
                if (f7 == 1 && f3 >= 1 && f3 <= 3) {
                    throw new Fault(2, w);
                }
                r[rd] = f7 == 1 ? signed(product(f3, signed(r[rs1], 32), signed(r[rs2], 32), 32), 32) : word(f3, f7, r[rs1], r[rs2], w);
                return at + 4;
            case 0b0001111:
                if (f3 > 1) {
                    throw new Fault(2, w);
                }
                return at + 4;
            case 0b1110011: return system(r, at, before, w);
            default: throw new Fault(2, w);
        }
    }

    private long jump(long[] r, int rd, long at, long target) {
        if (target % 4 != 0) {
            throw new Fault(0, target);
        }
        r[rd] = at + 4;
        return target;
    }

    private boolean taken(int f3, long a, long b, long w) {
        switch (f3) {
            case 0: return a == b;
            case 1: return a != b;
            case 4: return a < b;
            case 5: return !(a < b);
            case 6: return unsigned(a).compareTo(unsigned(b)) < 0;
            case 7: return unsigned(a).compareTo(unsigned(b)) >= 0;
            default: throw new Fault(2, w);
        }
    }

    private void load(long[] r, int rd, int f3, long at, long w) {
        if (f3 == 7) {
            throw new Fault(2, w);
        }
        int size = new int[] {1, 2, 4, 8}[f3 % 4];
        if (unsigned(at).mod(BigInteger.valueOf(size)).signum() != 0) {
            throw new Fault(4, at);
        }
        if (!lets(unsigned(at), size, 0)) {
            throw new Fault(5, at);
        }
        r[rd] = f3 < 4 ? signed(get((int) at, size), 8 * size) : get((int) at, size);
    }

    private void store(int f3, long at, long v, long w) {
        if (f3 > 3) {
            throw new Fault(2, w);
        }
        int size = new int[] {1, 2, 4, 8}[f3];
        if (unsigned(at).mod(BigInteger.valueOf(size)).signum() != 0) {
            throw new Fault(6, at);
        }
        if (!lets(unsigned(at), size, 1)) {
            throw new Fault(7, at);
        }
        put((int) at, size, v);
    }

    private long basic(int f3, int f7, long a, long b, long w) {
        BigInteger p = BigInteger.valueOf(a);
        BigInteger q = BigInteger.valueOf(b);
        int shift = (int) (b & 63);
        if (f7 == 0x20 && f3 == 0) {
            return p.subtract(q).longValue();
        }
        if (f7 == 0x20 && f3 == 5) {
            return p.shiftRight(shift).longValue();
        }
        if (f7 != 0) {
            throw new Fault(2, w);
        }
        switch (f3) {
            case 0: return p.add(q).longValue();
            case 1: return p.shiftLeft(shift).longValue();
            case 2: return p.compareTo(q) < 0 ? 1 : 0;
            case 3: return unsigned(a).compareTo(unsigned(b)) < 0 ? 1 : 0;
            case 4: return p.xor(q).longValue();
            case 5: return unsigned(a).shiftRight(shift).longValue();
            case 6: return p.or(q).longValue();
            default: return p.and(q).longValue();
        }
    }

    private long word(int f3, int f7, long a, long b, long w) {
        int shift = (int) (b & 31);
        if (f3 == 0 && f7 == 0) {
            return signed(a + b, 32);
        }
        if (f3 == 0 && f7 == 0x20) {
            return signed(a - b, 32);
        }
        if (f3 == 1 && f7 == 0) {
            return signed(a << shift, 32);
        }
        if (f3 == 5 && f7 == 0) {
            return signed((a & 0xffffffffL) >> shift, 32);
        }
        if (f3 == 5 && f7 == 0x20) {
            return signed(a, 32) >> shift;
        }
        throw new Fault(2, w);
    }

    private long product(int f3, long a, long b, int bits) {
        BigInteger all = BigInteger.ONE.shiftLeft(bits);
        BigInteger p = BigInteger.valueOf(a);
        BigInteger q = BigInteger.valueOf(b);
        switch (f3) {
            case 0: return p.multiply(q).longValue();
            case 1: return p.multiply(q).shiftRight(64).longValue();
            case 2: return p.multiply(q.mod(all)).shiftRight(64).longValue();
            case 3: return p.mod(all).multiply(q.mod(all)).shiftRight(64).longValue();
            case 4: return b == 0 ? -1 : p.divide(q).longValue();
            case 5: return b == 0 ? -1 : p.mod(all).divide(q.mod(all)).longValue();
            case 6: return b == 0 ? a : p.remainder(q).longValue();
            default: return b == 0 ? a : p.mod(all).remainder(q.mod(all)).longValue();
        }
    }

    // ---- SYSTEM

    private long system(long[] r, long at, int before, long w) {
        int f3 = (int) (w >> 12 & 7);
        if (f3 == 0) {
            if (w == 0x73) {
                throw new Fault(11, 0);
            }
            if (w == 0x100073) {
                throw new Fault(3, at);
            }
            if (w == 0x10500073) {
                return at + 4;
            }
            if (w != 0x30200073 || !modeM) {
                throw new Fault(2, w);
            }
            modeM = mstatus != 0;
            mstatus = 0;
            return mepc;
        }
        int source = (int) (w >> 15 & 31);
        if (!modeM || f3 == 4) {
            throw new Fault(2, w);
        }
        int number = (int) (w >> 20);
        Long old = csr(number, before);
        boolean writes = f3 == 1 || f3 == 5 || source != 0;
        if (old == null || writes && (number == 0xb02 || number == 0xf14)) {
            throw new Fault(2, w);
        }
        long operand = f3 > 4 ? source : r[source];
        if (writes) {
            csrWrite(number, f3 % 4 == 1 ? operand : f3 % 4 == 2 ? old | operand : old & ~operand);
        }
        r[(int) (w >> 7 & 31)] = old;
        return at + 4;
    }

    private Long csr(int number, int before) {
        if (number >= 0x3b0 && number <= 0x3bf) {
            return address(number - 0x3b0);
        }
        long bytes = 0;
        switch (number) {
            case 0x300: return mstatus;
            case 0x340: return mscratch;
            case 0x341: return mepc;
            case 0x342: return mcause;
            case 0x343: return mtval;
            case 0x3a0:
            case 0x3a2:
                for (int k = 0; k < 8; k++) {
                    bytes |= (long) config(k + (number == 0x3a2 ? 8 : 0)) << 8 * k;
                }
                return bytes;
            case 0xb02: return (long) before;
            case 0xf14: return 0L;
            default: return null;
        }
    }

    private void csrWrite(int number, long v) {
        if (number == 0x300) {
            mstatus = (v & 0x1800) == 0x1800 ? 0x1800 : 0;
        } else if (number == 0x340) {
            mscratch = v;
        } else if (number == 0x341) {
            mepc = v >> 2 << 2;
        } else if (number == 0x342) {
            mcause = v;
        } else if (number == 0x343) {
            mtval = v;
        } else if (number == 0x3a2) {
            for (int k = 8; k < 16; k++) {
                int b = (int) (v >> 8 * (k - 8)) & 0x9f;
                if (cfg[k] < 0x80) {
                    cfg[k] = (b & 3) == 2 ? b - 2 : b;
                }
            }
        } else if (number >= 0x3b8) {
            int i = number - 0x3b0;
            boolean ahead = i < 15 && cfg[i + 1] >= 0x80 && (cfg[i + 1] >> 3 & 3) == 1;
            if (cfg[i] < 0x80 && !ahead) {
                addr[i] = v & (1L << 54) - 1;
            }
        }
    }

    // ---- the monitor

    private void leave(int reason, long v) {
        inmates[runner].status = reason == 2 ? "FAULTED" : "LEFT";
        interrupted += reason == 1 ? 1 : 0;
        runner = -1;
        x[10] = reason;
        x[11] = v;
    }

    private void enclaveCall(Inmate one) {
        if (one.x[17] == 1) {
            leave(0, one.x[10]);
        } else if (one.x[17] == 2) {
            one.x[10] = one.key;
        } else if (one.x[17] == 3) {
            one.x[10] = one.base;
            one.x[11] = one.size;
            one.x[12] = one.shared;
            one.x[13] = one.sharedSize;
        } else {
            one.x[10] = -1;
        }
    }

    private void destroy(int e) {
        if (inmates[e] != null) {
            for (long at = inmates[e].base; at < inmates[e].base + inmates[e].size; at++) {
                memory[(int) at] = 0;
            }
            inmates[e] = null;
        }
    }

    private void hostCall() {
        long call = x[17];
        if (call == 1) {
            x[10] = create();
            return;
        }
        Inmate one = x[10] >= 0 && x[10] < 6 ? inmates[(int) x[10]] : null;
        if (one == null || call < 2 || call > 4) {
            x[10] = -1;
        } else if (call == 2 && one.status.equals("FAULTED")) {
            x[10] = -5;
        } else if (call == 2) {
            runner = (int) x[10];
            one.status = "RUNS";
            one.stays++;
            stays++;
            left = x[11] == 0 ? null : unsigned(x[11]);
        } else if (call == 3) {
            destroy((int) x[10]);
            x[10] = 0;
        } else {
            x[11] = one.measure;
            x[10] = java.util.Arrays.asList(STATUS).indexOf(one.status);
        }
    }

    private static boolean oneOf(BigInteger v, int least, int most) {
        for (int size = least; size <= most; size *= 2) {
            if (v.equals(BigInteger.valueOf(size))) {
                return true;
            }
        }
        return false;
    }

    private static boolean inMemory(BigInteger at, BigInteger size) {
        return at.add(size).compareTo(BigInteger.valueOf(65536)) <= 0;
    }

    private static boolean common(long a, long aSize, long b, long bSize) {
        for (long at = a; at < a + aSize; at++) {
            if (at >= b && at < b + bSize) {
                return true;
            }
        }
        return false;
    }

    private boolean toldWrongly() {
        BigInteger[] v = new BigInteger[7];
        for (int k = 0; k < 7; k++) {
            v[k] = unsigned(x[10 + k]);
        }
        if (!oneOf(v[1], 32, 16384) || v[0].mod(v[1]).signum() != 0 || !inMemory(v[0], v[1])) {
            return true;
        }
        if (v[3].compareTo(v[1]) > 0 || v[3].signum() != 0 && !inMemory(v[2], v[3])) {
            return true;
        }
        if (v[4].mod(BigInteger.valueOf(4)).signum() != 0 || v[4].compareTo(v[1]) >= 0) {
            return true;
        }
        if (v[6].signum() == 0) {
            return false;
        }
        return !oneOf(v[6], 8, 4096) || v[5].mod(v[6]).signum() != 0 || !inMemory(v[5], v[6])
                || common(x[10], x[11], x[15], x[16]);
    }

    private boolean may(long at, long size, boolean write) {
        for (long k = at; k < at + size; k++) {
            if (!lets(BigInteger.valueOf(k), 1, 0) || write && !lets(BigInteger.valueOf(k), 1, 1)) {
                return false;
            }
        }
        return true;
    }

    private long create() {
        if (toldWrongly()) {
            return -1;
        }
        long share = x[16] == 0 ? 0 : x[15];
        for (Inmate one : inmates) {
            if (one != null && (common(x[10], x[11], one.base, one.size) || common(x[10], x[11], one.shared, one.sharedSize)
                    || common(share, x[16], one.base, one.size))) {
                return -2;
            }
        }
        if (!may(x[10], x[11], true) || !may(share, x[16], true) || !may(x[12], x[13], false)) {
            return -4;
        }
        int e = 0;
        while (e < 6 && inmates[e] != null) {
            e++;
        }
        if (e == 6) {
            return -3;
        }
        Inmate one = new Inmate();
        one.base = x[10];
        one.size = x[11];
        one.entry = x[14];
        one.shared = share;
        one.sharedSize = x[16];
        one.pc = one.base + one.entry;
        byte[] image = new byte[(int) x[11]];
        long it = 0xcbf29ce484222325L;
        for (int k = 0; k < x[13]; k++) {
            image[k] = memory[(int) x[12] + k];
            it = (it ^ image[k] & 0xff) * 0x100000001b3L;
        }
        for (long number : new long[] {x[11], x[14], x[16]}) {
            for (int k = 0; k < 64; k += 8) {
                it = (it ^ number >> k & 0xff) * 0x100000001b3L;
            }
        }
        one.measure = it;
        one.key = EnclaveViewTest.key(secret, it);
        for (int k = 0; k < image.length; k++) {
            memory[(int) one.base + k] = image[k];
        }
        inmates[e] = one;
        creates++;
        return e;
    }
}
