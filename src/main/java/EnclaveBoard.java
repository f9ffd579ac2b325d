import java.util.Arrays;

/**
 * A board with one RISC-V hart (RV64IM, modes M and U, PMP) and a monitor of enclaves.
 * The names follow the document's words: FAULT, VALUE, STEP, HOST, stay, MEASURE, KEY.
 */
public final class EnclaveBoard {
    public static final int NONE = -1;

    private static final int MEMORY_BYTES = 65536;
    private static final int MOST_STEPS = 5000;
    private static final int ENCLAVES = 6;

    private static final int MODE_U = 0;
    private static final int MODE_M = 3;

    private static final int GOES = 0;
    private static final int STOPPED = 1;
    private static final int DOWN = 2;

    // What an instruction came to: DONE, ECALL, or the number of its FAULT.
    private static final int DONE = -1;
    private static final int FAULT_TARGET = 0;
    private static final int FAULT_FETCH = 1;
    private static final int FAULT_ILLEGAL = 2;
    private static final int FAULT_BREAK = 3;
    private static final int FAULT_LOAD_ALIGN = 4;
    private static final int FAULT_LOAD = 5;
    private static final int FAULT_STORE_ALIGN = 6;
    private static final int FAULT_STORE = 7;
    private static final int ECALL = 11;

    private final Memory memory;
    private final Pmp protection;
    private final Csrs csrs;
    private final Registers host;
    private final Hart hart;
    private final Monitor monitor;
    private int condition;
    private int faultNumber;
    private long faultValue;

    public EnclaveBoard(long secret) {
        memory = new Memory();
        protection = new Pmp();
        csrs = new Csrs(protection);
        host = new Registers();
        hart = new Hart(memory, protection, csrs);
        monitor = new Monitor(secret, memory, protection, host);
        condition = GOES;
        faultNumber = NONE;
    }

    public void reset(long pc) {
        monitor.forgetAll();
        protection.clear();
        csrs.clear();
        host.clear(pc);
        hart.mode = MODE_M;
        condition = GOES;
        faultNumber = NONE;
        faultValue = 0;
    }

    public boolean poke(int at, long v) {
        if (!isOpenWord(at)) {
            return false;
        }
        memory.store(at, 8, v);
        return true;
    }

    public long peek(int at) {
        return isOpenWord(at) ? memory.load(at, 8) : 0;
    }

    public void interrupt() {
        monitor.interruptWaits = true;
    }

    public int run(int steps) {
        if (steps < 1 || steps > MOST_STEPS) {
            return NONE;
        }
        int done = 0;
        while (done < steps && condition == GOES) {
            monitor.takeInterrupt();
            settle(hart.execute(monitor.whoRuns()));
            done++;
        }
        return done;
    }

    public long register(int k) {
        return k < 0 || k > 31 ? 0 : host.get(k);
    }

    public int state(int what) {
        switch (what) {
            case 0: return hart.mode;
            case 1: return condition;
            case 2: return monitor.running;
            case 3: return faultNumber;
            case 4: return csrs.steps;
            case 5: return monitor.creates;
            case 6: return monitor.staysBegun;
            case 7: return monitor.staysInterrupted;
            case 8: return monitor.hostInterrupts;
            default: return NONE;
        }
    }

    public long held(int what) {
        switch (what) {
            case 0: return host.pc;
            case 1: return faultValue;
            case 2: return csrs.mstatus();
            case 3: return csrs.mscratch;
            case 4: return csrs.mepc;
            case 5: return csrs.mcause;
            case 6: return csrs.mtval;
            default: return 0;
        }
    }

    public long pmp(int i, int what) {
        if (i < 0 || i >= Pmp.ENTRIES) {
            return 0;
        }
        switch (what) {
            case 0: return protection.configs[i];
            case 1: return protection.addresses[i];
            default: return 0;
        }
    }

    public int enclave(int e, int what) {
        return e < 0 || e >= ENCLAVES ? 0 : monitor.enclaves[e].fact(what);
    }

    public long eye(int e, int what) {
        if (e < 0 || e >= ENCLAVES || what < 0) {
            return 0;
        }
        Enclave seen = monitor.enclaves[e];
        if (seen.status == Enclave.ABSENT) {
            return 0;
        }
        if (what < 32) {
            return seen.registers.get(what);
        }
        switch (what) {
            case 32: return seen.registers.pc;
            case 33: return seen.measure;
            case 34: return seen.key;
            default:
                int word = what - 35;
                return word < seen.size / 8 ? memory.load(seen.base + 8 * word, 8) : 0;
        }
    }

    private boolean isOpenWord(int at) {
        return at >= 0 && at < MEMORY_BYTES && (at & 7) == 0 && !monitor.meetsLiveMemory(at, 8);
    }

    /** Draws the consequences of a STEP that whoever runs has just made. */
    private void settle(int outcome) {
        csrs.steps++;
        if (monitor.running != NONE) {
            monitor.settleStay(outcome);
        } else if (outcome == ECALL && hart.mode == MODE_U) {
            monitor.answerHost();
            host.pc += 4;
        } else if (outcome != DONE) {
            halt(outcome);
        }
    }

    private void halt(int number) {
        faultNumber = number;
        faultValue = hart.value;
        condition = STOPPED;
        if (hart.mode == MODE_M) {
            condition = DOWN;
            csrs.trap(host.pc, number, hart.value);
        }
    }

    /** The bytes, eight to an element: all accesses are aligned, so none lies across two elements. */
    private static final class Memory {
        private static final int LAST_WORD = MEMORY_BYTES / 8 - 1;

        private final long[] words = new long[LAST_WORD + 1];

        long load(int at, int size) {
            return words[at >>> 3 & LAST_WORD] >>> shift(at) & mask(size);
        }

        void store(int at, int size, long v) {
            int word = at >>> 3 & LAST_WORD;
            long place = mask(size) << shift(at);
            words[word] = words[word] & ~place | v << shift(at) & place;
        }

        /** The end is a multiple of 8, where it starts need not be one. */
        void zero(int from, int end) {
            int at = from;
            while (at < end && (at & 7) != 0) {
                store(at, 1, 0);
                at++;
            }
            if (at >= 0 && at < end && end <= MEMORY_BYTES) {
                Arrays.fill(words, at / 8, end / 8, 0L);
            }
        }

        /** The direction keeps bytes that are still to be read from being written over. */
        void copy(int from, int to, int length) {
            if (from > to) {
                for (int i = 0; i < length; i++) {
                    store(to + i, 1, load(from + i, 1));
                }
            } else {
                for (int i = length - 1; i >= 0; i--) {
                    store(to + i, 1, load(from + i, 1));
                }
            }
        }

        private static int shift(int at) {
            return (at & 7) << 3;
        }

        private static long mask(int size) {
            return size >= 8 ? -1L : (1L << (size << 3)) - 1;
        }
    }

    /** The registers and the pc of the host (of mode M) or of an enclave. */
    private static final class Registers {
        private final long[] x = new long[32];
        long pc;

        long get(int k) {
            return x[k & 31];
        }

        void set(int k, long v) {
            if ((k & 31) != 0) {
                x[k & 31] = v;
            }
        }

        void clear(long start) {
            Arrays.fill(x, 0L);
            pc = start;
        }
    }

    /** The 16 PMP entries: the monitor puts the first eight, CSR writes reach the others alone. */
    private static final class Pmp {
        static final int ENTRIES = 16;
        static final int READ = 1;
        static final int WRITE = 2;
        static final int EXECUTE = 4;
        static final int NAPOT = 0x18;
        static final long ALL = (1L << 54) - 1;

        private static final int FIRST_FREE = 8;
        private static final int KIND = 0x18;
        private static final int TOR = 0x08;
        private static final int NA4 = 0x10;
        private static final int LOCK = 0x80;
        private static final int KEPT_BITS = 0x9f;

        private final int[] configs = new int[ENTRIES];
        private final long[] addresses = new long[ENTRIES];
        // The bytes that an entry has, from low on and below high, as far as there is memory;
        // 0 and 0 where it has none, so that no access seems to meet it.
        private final int[] low = new int[ENTRIES];
        private final int[] high = new int[ENTRIES];

        void clear() {
            Arrays.fill(configs, 0);
            Arrays.fill(addresses, 0L);
            Arrays.fill(low, 0);
            Arrays.fill(high, 0);
        }

        /** The address that makes NAPOT of a power of two from 8 on and a multiple of it. */
        static long napot(int base, int size) {
            return base / 4 | size / 8 - 1;
        }

        void put(int i, int config, long address) {
            if (i >= 0 && i < ENTRIES) {
                configs[i] = config;
                addresses[i] = address;
                measureOut(i);
                measureOut(i + 1);
            }
        }

        /** The eight configs from an entry on as a CSR, the lowest first. */
        long readConfigs(int first) {
            long v = 0;
            for (int i = Math.min(first + 7, ENTRIES - 1); i >= first && i >= 0; i--) {
                v = v << 8 | configs[i];
            }
            return v;
        }

        void writeConfigs(long v) {
            for (int i = FIRST_FREE; i < ENTRIES; i++) {
                if ((configs[i] & LOCK) == 0) {
                    configs[i] = legal((int) (v >>> (i - FIRST_FREE) * 8));
                    measureOut(i);
                }
            }
        }

        void writeAddress(int i, long v) {
            if (i >= FIRST_FREE && i < ENTRIES && !isAddressLocked(i)) {
                addresses[i] = v & ALL;
                measureOut(i);
                measureOut(i + 1);
            }
        }

        /** There is no FAULT that tells missing memory from protection, so both are asked here. */
        boolean lets(int mode, long at, int size, int right) {
            if (at < 0 || at > MEMORY_BYTES - size) {
                return false;
            }
            int from = (int) at;
            int i = decider(from, from + size);
            if (i == NONE) {
                return mode == MODE_M;
            }
            if (from < low[i] || from + size > high[i]) {
                return false;
            }
            return mode == MODE_M && (configs[i] & LOCK) == 0 || (configs[i] & right) != 0;
        }

        /** Whether mode U has all the rights on each of the bytes, each for itself. */
        boolean letsEach(int from, int length, int rights) {
            int end = from + length;
            int at = from;
            for (int piece = 0; piece <= 2 * ENTRIES && at < end; piece++) {
                int i = decider(at, at + 1);
                if (i == NONE || (configs[i] & rights) != rights) {
                    return false;
                }
                at = nextBorder(at, end);
            }
            return at >= end;
        }

        private int decider(int from, int end) {
            for (int i = 0; i < ENTRIES; i++) {
                if (from < high[i] && low[i] < end) {
                    return i;
                }
            }
            return NONE;
        }

        /** The bytes from one border of entries to the next are all decided alike. */
        private int nextBorder(int at, int end) {
            int border = end;
            for (int i = 0; i < ENTRIES; i++) {
                if (low[i] > at && low[i] < border) {
                    border = low[i];
                }
                if (high[i] > at && high[i] < border) {
                    border = high[i];
                }
            }
            return border;
        }

        private boolean isAddressLocked(int i) {
            if ((configs[i] & LOCK) != 0) {
                return true;
            }
            return i + 1 < ENTRIES && (configs[i + 1] & (LOCK | KIND)) == (LOCK | TOR);
        }

        private static int legal(int config) {
            int kept = config & KEPT_BITS;
            return (kept & READ) == 0 ? kept & ~WRITE : kept;
        }

        private void measureOut(int i) {
            if (i < 0 || i >= ENTRIES) {
                return;
            }
            long address = addresses[i];
            long first = 0;
            long behind = 0;
            switch (configs[i] & KIND) {
                case TOR:
                    first = i == 0 ? 0 : addresses[i - 1];
                    behind = address;
                    break;
                case NA4:
                    first = address;
                    behind = address + 1;
                    break;
                case NAPOT:
                    long inside = address ^ address + 1;
                    first = address & ~inside;
                    behind = first + inside + 1;
                    break;
                default:
                    break;
            }
            boolean has = first < behind && first < MEMORY_BYTES / 4;
            low[i] = has ? (int) first * 4 : 0;
            high[i] = !has ? 0 : behind < MEMORY_BYTES / 4 ? (int) behind * 4 : MEMORY_BYTES;
        }
    }

    /** The CSRs of mode M, by their numbers. */
    private static final class Csrs {
        private static final int MSTATUS = 0x300;
        private static final int MSCRATCH = 0x340;
        private static final int MEPC = 0x341;
        private static final int MCAUSE = 0x342;
        private static final int MTVAL = 0x343;
        private static final int PMPCFG0 = 0x3a0;
        private static final int PMPCFG2 = 0x3a2;
        private static final int PMPADDR0 = 0x3b0;
        private static final int PMPADDR15 = 0x3bf;
        private static final int MINSTRET = 0xb02;
        private static final int MHARTID = 0xf14;

        private final Pmp protection;
        int mpp;
        long mscratch;
        long mepc;
        long mcause;
        long mtval;
        int steps;

        Csrs(Pmp protection) {
            this.protection = protection;
        }

        void clear() {
            mpp = MODE_U;
            mscratch = 0;
            mepc = 0;
            mcause = 0;
            mtval = 0;
            steps = 0;
        }

        long mstatus() {
            return (long) mpp << 11;
        }

        void trap(long pc, int number, long value) {
            mepc = pc & ~3L;
            mcause = number;
            mtval = value;
        }

        boolean isThere(int number) {
            return isWritable(number) || number == MINSTRET || number == MHARTID;
        }

        boolean isWritable(int number) {
            switch (number) {
                case MSTATUS:
                case MSCRATCH:
                case MEPC:
                case MCAUSE:
                case MTVAL:
                case PMPCFG0:
                case PMPCFG2:
                    return true;
                default:
                    return number >= PMPADDR0 && number <= PMPADDR15;
            }
        }

        long read(int number) {
            switch (number) {
                case MSTATUS: return mstatus();
                case MSCRATCH: return mscratch;
                case MEPC: return mepc;
                case MCAUSE: return mcause;
                case MTVAL: return mtval;
                case PMPCFG0: return protection.readConfigs(0);
                case PMPCFG2: return protection.readConfigs(8);
                case MINSTRET: return steps;
                default:
                    boolean isAddress = number >= PMPADDR0 && number <= PMPADDR15;
                    return isAddress ? protection.addresses[number - PMPADDR0] : 0;
            }
        }

        void write(int number, long v) {
            switch (number) {
                case MSTATUS:
                    mpp = (v >>> 11 & 3) == MODE_M ? MODE_M : MODE_U;
                    break;
                case MSCRATCH:
                    mscratch = v;
                    break;
                case MEPC:
                    mepc = v & ~3L;
                    break;
                case MCAUSE:
                    mcause = v;
                    break;
                case MTVAL:
                    mtval = v;
                    break;
                case PMPCFG0:
                    break;
                case PMPCFG2:
                    protection.writeConfigs(v);
                    break;
                default:
                    protection.writeAddress(number - PMPADDR0, v);
                    break;
            }
        }
    }

    /** What RV64I and M compute, by funct3. */
    private static final class Alu {
        private static final long LOW_WORD = 0xffffffffL;

        static long basic(int kind, boolean other, long a, long b) {
            int shift = (int) b & 63;
            switch (kind) {
                case 0: return other ? a - b : a + b;
                case 1: return a << shift;
                case 2: return a < b ? 1 : 0;
                case 3: return Long.compareUnsigned(a, b) < 0 ? 1 : 0;
                case 4: return a ^ b;
                case 5: return other ? a >> shift : a >>> shift;
                case 6: return a | b;
                default: return a & b;
            }
        }

        static long basicWord(int kind, boolean other, int a, int b) {
            int shift = b & 31;
            switch (kind) {
                case 0: return other ? a - b : a + b;
                case 1: return a << shift;
                default: return other ? a >> shift : a >>> shift;
            }
        }

        static long multiplied(int kind, long a, long b) {
            switch (kind) {
                case 0: return a * b;
                case 1: return Math.multiplyHigh(a, b);
                case 2: return Math.multiplyHigh(a, b) + (a & b >> 63);
                default: return Math.multiplyHigh(a, b) + (a & b >> 63) + (b & a >> 63);
            }
        }

        static long multipliedWord(int kind, int a, int b) {
            switch (kind) {
                case 0: return a * b;
                case 4: return b == 0 ? -1 : a / b;
                case 5: return b == 0 ? -1 : (int) ((a & LOW_WORD) / (b & LOW_WORD));
                case 6: return b == 0 ? a : a % b;
                default: return b == 0 ? a : (int) ((a & LOW_WORD) % (b & LOW_WORD));
            }
        }

        static long divided(int kind, long a, long b) {
            switch (kind) {
                case 4: return b == 0 ? -1 : a / b;
                case 5: return quotientWithoutSign(a, b);
                case 6: return b == 0 ? a : a % b;
                default: return b == 0 ? a : a - quotientWithoutSign(a, b) * b;
            }
        }

        private static long quotientWithoutSign(long a, long b) {
            if (b == 0) {
                return -1;
            }
            if (b < 0) {
                // Twice such a divisor is above 64 bits, so it goes into the dividend once at most.
                return Long.compareUnsigned(a, b) < 0 ? 0 : 1;
            }
            // Half the dividend has no sign bit, so Java may divide it; twice that quotient is
            // the due one or 1 less, and the rest tells which.
            long quotient = (a >>> 1) / b << 1;
            long rest = a - quotient * b;
            return Long.compareUnsigned(rest, b) < 0 ? quotient : quotient + 1;
        }

        static boolean holds(int kind, long a, long b) {
            switch (kind) {
                case 0: return a == b;
                case 1: return a != b;
                case 4: return a < b;
                case 5: return a >= b;
                case 6: return Long.compareUnsigned(a, b) < 0;
                default: return Long.compareUnsigned(a, b) >= 0;
            }
        }
    }

    /** Executes one instruction of whoever runs, and tells what it came to. */
    private static final class Hart {
        private final Memory memory;
        private final Pmp protection;
        private final Csrs csrs;
        int mode = MODE_M;
        // The VALUE of the newest FAULT.
        long value;
        // Where the pc goes if the instruction comes to its end.
        private long next;

        Hart(Memory memory, Pmp protection, Csrs csrs) {
            this.memory = memory;
            this.protection = protection;
            this.csrs = csrs;
        }

        int execute(Registers x) {
            if ((x.pc & 3) != 0) {
                return fault(FAULT_TARGET, x.pc);
            }
            if (!protection.lets(mode, x.pc, 4, Pmp.EXECUTE)) {
                return fault(FAULT_FETCH, x.pc);
            }
            next = x.pc + 4;
            int outcome = perform(x, (int) memory.load((int) x.pc, 4));
            if (outcome == DONE) {
                x.pc = next;
            }
            return outcome;
        }

        private int perform(Registers x, int word) {
            switch (word & 0x7f) {
                case 0x03: return load(x, word);
                case 0x0f: return kind(word) <= 1 ? DONE : illegal(word);
                case 0x13: return withImmediate(x, word);
                case 0x17: return finish(x, word, x.pc + (word & ~0xfff));
                case 0x1b: return withImmediateWord(x, word);
                case 0x23: return store(x, word);
                case 0x33: return withRegister(x, word);
                case 0x37: return finish(x, word, word & ~0xfff);
                case 0x3b: return withRegisterWord(x, word);
                case 0x63: return branch(x, word);
                case 0x67: return jumpByRegister(x, word);
                case 0x6f: return jump(x, word, x.pc + jumpOffset(word));
                case 0x73: return kind(word) == 0 ? environment(x, word) : access(x, word);
                default: return illegal(word);
            }
        }

        private int load(Registers x, int word) {
            int kind = kind(word);
            if (kind == 7) {
                return illegal(word);
            }
            long at = first(x, word) + (word >> 20);
            int size = 1 << (kind & 3);
            if ((at & size - 1) != 0) {
                return fault(FAULT_LOAD_ALIGN, at);
            }
            if (!protection.lets(mode, at, size, Pmp.READ)) {
                return fault(FAULT_LOAD, at);
            }
            long v = memory.load((int) at, size);
            int unused = 64 - 8 * size;
            return finish(x, word, kind < 4 ? v << unused >> unused : v);
        }

        private int store(Registers x, int word) {
            int kind = kind(word);
            if (kind > 3) {
                return illegal(word);
            }
            long at = first(x, word) + (word >> 25 << 5 | word >>> 7 & 31);
            int size = 1 << kind;
            if ((at & size - 1) != 0) {
                return fault(FAULT_STORE_ALIGN, at);
            }
            if (!protection.lets(mode, at, size, Pmp.WRITE)) {
                return fault(FAULT_STORE, at);
            }
            memory.store((int) at, size, second(x, word));
            return DONE;
        }

        private int withImmediate(Registers x, int word) {
            int kind = kind(word);
            int family = word >>> 26;
            boolean other = kind == 5 && family == 0x10;
            if ((kind == 1 || kind == 5) && family != 0 && !other) {
                return illegal(word);
            }
            return finish(x, word, Alu.basic(kind, other, first(x, word), word >> 20));
        }

        private int withImmediateWord(Registers x, int word) {
            int kind = kind(word);
            int family = word >>> 25;
            boolean other = kind == 5 && family == 0x20;
            boolean isShift = (kind == 1 || kind == 5) && (family == 0 || other);
            if (kind != 0 && !isShift) {
                return illegal(word);
            }
            return finish(x, word, Alu.basicWord(kind, other, (int) first(x, word), word >> 20));
        }

        private int withRegister(Registers x, int word) {
            int kind = kind(word);
            int family = word >>> 25;
            long a = first(x, word);
            long b = second(x, word);
            if (family == 1) {
                return finish(x, word, kind < 4 ? Alu.multiplied(kind, a, b) : Alu.divided(kind, a, b));
            }
            boolean other = family == 0x20 && (kind == 0 || kind == 5);
            if (family != 0 && !other) {
                return illegal(word);
            }
            return finish(x, word, Alu.basic(kind, other, a, b));
        }

        private int withRegisterWord(Registers x, int word) {
            int kind = kind(word);
            int family = word >>> 25;
            int a = (int) first(x, word);
            int b = (int) second(x, word);
            if (family == 1 && (kind == 0 || kind >= 4)) {
                return finish(x, word, Alu.multipliedWord(kind, a, b));
            }
            boolean other = family == 0x20 && (kind == 0 || kind == 5);
            boolean plain = family == 0 && (kind == 0 || kind == 1 || kind == 5);
            if (!plain && !other) {
                return illegal(word);
            }
            return finish(x, word, Alu.basicWord(kind, other, a, b));
        }

        private int branch(Registers x, int word) {
            int kind = kind(word);
            if (kind == 2 || kind == 3) {
                return illegal(word);
            }
            if (!Alu.holds(kind, first(x, word), second(x, word))) {
                return DONE;
            }
            long target = x.pc + branchOffset(word);
            if ((target & 3) != 0) {
                return fault(FAULT_TARGET, target);
            }
            next = target;
            return DONE;
        }

        private int jumpByRegister(Registers x, int word) {
            if (kind(word) != 0) {
                return illegal(word);
            }
            return jump(x, word, first(x, word) + (word >> 20) & ~1L);
        }

        private int jump(Registers x, int word, long target) {
            if ((target & 3) != 0) {
                return fault(FAULT_TARGET, target);
            }
            next = target;
            return finish(x, word, x.pc + 4);
        }

        private int environment(Registers x, int word) {
            switch (word) {
                case 0x00000073: return fault(ECALL, 0);
                case 0x00100073: return fault(FAULT_BREAK, x.pc);
                case 0x10500073: return DONE;
                case 0x30200073: return mode == MODE_M ? returnFromM() : illegal(word);
                default: return illegal(word);
            }
        }

        private int returnFromM() {
            next = csrs.mepc;
            mode = csrs.mpp;
            csrs.mpp = MODE_U;
            return DONE;
        }

        private int access(Registers x, int word) {
            int kind = kind(word);
            int number = word >>> 20;
            int source = word >>> 15 & 31;
            boolean writes = (kind & 3) == 1 || source != 0;
            boolean may = writes ? csrs.isWritable(number) : csrs.isThere(number);
            if (mode != MODE_M || kind == 4 || !may) {
                return illegal(word);
            }
            long old = csrs.read(number);
            if (writes) {
                long operand = kind > 4 ? source : x.get(source);
                csrs.write(number, changed(kind & 3, old, operand));
            }
            return finish(x, word, old);
        }

        private static long changed(int kind, long old, long operand) {
            switch (kind) {
                case 1: return operand;
                case 2: return old | operand;
                default: return old & ~operand;
            }
        }

        private int fault(int number, long told) {
            value = told;
            return number;
        }

        private int illegal(int word) {
            return fault(FAULT_ILLEGAL, word & 0xffffffffL);
        }

        private static int finish(Registers x, int word, long result) {
            x.set(word >>> 7, result);
            return DONE;
        }

        private static int kind(int word) {
            return word >>> 12 & 7;
        }

        private static long first(Registers x, int word) {
            return x.get(word >>> 15);
        }

        private static long second(Registers x, int word) {
            return x.get(word >>> 20);
        }

        private static int branchOffset(int word) {
            return word >> 31 << 12 | (word >>> 7 & 1) << 11 | (word >>> 25 & 0x3f) << 5 | (word >>> 8 & 0xf) << 1;
        }

        private static int jumpOffset(int word) {
            return word >> 31 << 20 | word & 0xff000 | (word >>> 20 & 1) << 11 | (word >>> 21 & 0x3ff) << 1;
        }
    }

    /** One of the six places for an enclave. */
    private static final class Enclave {
        static final int ABSENT = 0;
        static final int NEW = 1;
        static final int LEFT = 2;
        static final int FAULTED = 3;
        static final int RUNS = 4;

        final Registers registers = new Registers();
        int status;
        int base;
        int size;
        int entry;
        int shared;
        int sharedSize;
        int stays;
        int steps;
        long measure;
        long key;

        void begin(Request told, long itsMeasure, long itsKey) {
            status = NEW;
            base = (int) told.base;
            size = (int) told.size;
            entry = (int) told.entry;
            sharedSize = (int) told.sharedSize;
            shared = sharedSize == 0 ? 0 : (int) told.shared;
            stays = 0;
            steps = 0;
            measure = itsMeasure;
            key = itsKey;
            registers.clear(base + entry);
        }

        int fact(int what) {
            if (status == ABSENT) {
                return 0;
            }
            switch (what) {
                case 0: return status;
                case 1: return base;
                case 2: return size;
                case 3: return entry;
                case 4: return shared;
                case 5: return sharedSize;
                case 6: return stays;
                case 7: return steps;
                default: return 0;
            }
        }
    }

    /** What a CREATE tells; one object serves all of them. */
    private static final class Request {
        long base;
        long size;
        long image;
        long length;
        long entry;
        long shared;
        long sharedSize;

        void take(Registers x) {
            base = x.get(10);
            size = x.get(11);
            image = x.get(12);
            length = x.get(13);
            entry = x.get(14);
            shared = x.get(15);
            sharedSize = x.get(16);
        }

        // Numbers without sign that are too large seem to be below 0 here, and are refused as such.
        boolean isToldRightly() {
            return isPowerOfTwo(size, 32, 16384)
                    && liesAligned(base, size)
                    && length >= 0 && length <= size
                    && (length == 0 || image >= 0 && image <= MEMORY_BYTES - length)
                    && (entry & 3) == 0 && entry >= 0 && entry < size
                    && (sharedSize == 0 || isShareToldRightly());
        }

        private boolean isShareToldRightly() {
            return isPowerOfTwo(sharedSize, 8, 4096)
                    && liesAligned(shared, sharedSize)
                    && !meet(base, size, shared, sharedSize);
        }

        private static boolean isPowerOfTwo(long v, int least, int most) {
            return v >= least && v <= most && (v & v - 1) == 0;
        }

        private static boolean liesAligned(long at, long length) {
            return at >= 0 && at <= MEMORY_BYTES - length && (at & length - 1) == 0;
        }

        static boolean meet(long a, long aLength, long b, long bLength) {
            return a < b + bLength && b < a + aLength;
        }
    }

    /** Keeps the enclaves, their stays and the first eight PMP entries. */
    private static final class Monitor {
        private static final int EXIT = 0;
        private static final int INTERRUPT = 1;
        private static final int FAULT = 2;

        private static final long TOLD_WRONGLY = -1;
        private static final long MEETS_ANOTHER = -2;
        private static final long TOO_MANY = -3;
        private static final long HOST_MAY_NOT = -4;
        private static final long IS_FAULTED = -5;

        private static final int SHARE_ENTRY = 6;
        private static final int ALL_ENTRY = 7;

        private final long secret;
        private final Memory memory;
        private final Pmp protection;
        private final Registers host;
        private final Request request = new Request();
        final Enclave[] enclaves = new Enclave[ENCLAVES];
        int running = NONE;
        private long stayLimit;
        private long stayed;
        boolean interruptWaits;
        int creates;
        int staysBegun;
        int staysInterrupted;
        int hostInterrupts;

        Monitor(long secret, Memory memory, Pmp protection, Registers host) {
            this.secret = secret;
            this.memory = memory;
            this.protection = protection;
            this.host = host;
            for (int e = 0; e < ENCLAVES; e++) {
                enclaves[e] = new Enclave();
            }
        }

        void forgetAll() {
            for (int e = 0; e < ENCLAVES; e++) {
                remove(enclaves[e]);
            }
            running = NONE;
            interruptWaits = false;
            creates = 0;
            staysBegun = 0;
            staysInterrupted = 0;
            hostInterrupts = 0;
        }

        Registers whoRuns() {
            return isPlace(running) ? enclaves[running].registers : host;
        }

        void takeInterrupt() {
            if (!interruptWaits) {
                return;
            }
            interruptWaits = false;
            if (running == NONE) {
                hostInterrupts++;
            } else {
                leave(INTERRUPT, 0);
            }
        }

        /** The CALL of the host; its pc is moved by the caller. */
        void answerHost() {
            long call = host.get(17);
            long e = host.get(10);
            if (call == 1) {
                host.set(10, create());
            } else if (!isPlace(e) || enclaves[(int) e].status == Enclave.ABSENT) {
                host.set(10, TOLD_WRONGLY);
            } else if (call == 2) {
                enter((int) e);
            } else if (call == 3) {
                remove(enclaves[(int) e]);
                arrange();
                host.set(10, 0);
            } else if (call == 4) {
                host.set(10, enclaves[(int) e].status);
                host.set(11, enclaves[(int) e].measure);
            } else {
                host.set(10, TOLD_WRONGLY);
            }
        }

        /** What follows from a STEP of the enclave that runs. */
        void settleStay(int outcome) {
            if (!isPlace(running)) {
                return;
            }
            Enclave own = enclaves[running];
            own.steps++;
            stayed++;
            if (outcome == ECALL) {
                own.registers.pc += 4;
                if (own.registers.get(17) == 1) {
                    leave(EXIT, own.registers.get(10));
                } else {
                    answerEnclave(own);
                }
            } else if (outcome != DONE) {
                leave(FAULT, outcome);
            }
            if (running != NONE && stayed == stayLimit) {
                leave(INTERRUPT, 0);
            }
        }

        boolean meetsLiveMemory(long at, long length) {
            for (int e = 0; e < ENCLAVES; e++) {
                Enclave other = enclaves[e];
                if (other.status != Enclave.ABSENT && Request.meet(at, length, other.base, other.size)) {
                    return true;
                }
            }
            return false;
        }

        private boolean meetsLiveShare(long at, long length) {
            for (int e = 0; e < ENCLAVES; e++) {
                Enclave other = enclaves[e];
                if (other.status != Enclave.ABSENT && other.sharedSize != 0
                        && Request.meet(at, length, other.shared, other.sharedSize)) {
                    return true;
                }
            }
            return false;
        }

        private static boolean isPlace(long e) {
            return e >= 0 && e < ENCLAVES;
        }

        private int freePlace() {
            for (int e = 0; e < ENCLAVES; e++) {
                if (enclaves[e].status == Enclave.ABSENT) {
                    return e;
                }
            }
            return NONE;
        }

        private long create() {
            request.take(host);
            if (!request.isToldRightly()) {
                return TOLD_WRONGLY;
            }
            if (requestMeetsAnother()) {
                return MEETS_ANOTHER;
            }
            if (!hostMayGiveWhatIsRequested()) {
                return HOST_MAY_NOT;
            }
            int e = freePlace();
            if (e == NONE) {
                return TOO_MANY;
            }
            Enclave made = enclaves[e];
            long measure = measureOfRequest();
            made.begin(request, measure, keyOf(measure));
            // The image goes ahead of the 0s, since it may lie where they come.
            int length = (int) request.length;
            memory.copy((int) request.image, made.base, length);
            memory.zero(made.base + length, made.base + made.size);
            creates++;
            arrange();
            return e;
        }

        private boolean requestMeetsAnother() {
            return meetsLiveMemory(request.base, request.size)
                    || meetsLiveShare(request.base, request.size)
                    || request.sharedSize != 0 && meetsLiveMemory(request.shared, request.sharedSize);
        }

        private boolean hostMayGiveWhatIsRequested() {
            int both = Pmp.READ | Pmp.WRITE;
            return protection.letsEach((int) request.base, (int) request.size, both)
                    && (request.sharedSize == 0
                        || protection.letsEach((int) request.shared, (int) request.sharedSize, both))
                    && (request.length == 0
                        || protection.letsEach((int) request.image, (int) request.length, Pmp.READ));
        }

        private long measureOfRequest() {
            long it = 0xcbf29ce484222325L;
            int image = (int) request.image;
            int length = (int) request.length;
            for (int i = 0; i < length; i++) {
                it = mixed(it, memory.load(image + i, 1));
            }
            it = mixedNumber(it, request.size);
            it = mixedNumber(it, request.entry);
            return mixedNumber(it, request.sharedSize);
        }

        private static long mixedNumber(long it, long number) {
            long v = it;
            for (int i = 0; i < 8; i++) {
                v = mixed(v, number >>> 8 * i & 0xff);
            }
            return v;
        }

        private static long mixed(long it, long b) {
            return (it ^ b) * 0x100000001b3L;
        }

        private long keyOf(long measure) {
            long k = secret ^ measure;
            k = (k ^ k >>> 33) * 0xff51afd7ed558ccdL;
            k = (k ^ k >>> 33) * 0xc4ceb9fe1a85ec53L;
            return k ^ k >>> 33;
        }

        private void remove(Enclave gone) {
            if (gone.status != Enclave.ABSENT) {
                memory.zero(gone.base, gone.base + gone.size);
                gone.status = Enclave.ABSENT;
            }
        }

        private void enter(int e) {
            Enclave own = enclaves[e];
            if (own.status == Enclave.FAULTED) {
                host.set(10, IS_FAULTED);
                return;
            }
            own.status = Enclave.RUNS;
            own.stays++;
            staysBegun++;
            running = e;
            stayLimit = host.get(11);
            stayed = 0;
            arrange();
        }

        private void leave(int reason, long v) {
            if (!isPlace(running)) {
                return;
            }
            enclaves[running].status = reason == FAULT ? Enclave.FAULTED : Enclave.LEFT;
            running = NONE;
            if (reason == INTERRUPT) {
                staysInterrupted++;
            }
            host.set(10, reason);
            host.set(11, v);
            arrange();
        }

        /** The CALLS of an enclave that do not end its stay. */
        private static void answerEnclave(Enclave own) {
            Registers x = own.registers;
            long call = x.get(17);
            if (call == 2) {
                x.set(10, own.key);
            } else if (call == 3) {
                x.set(10, own.base);
                x.set(11, own.size);
                x.set(12, own.shared);
                x.set(13, own.sharedSize);
            } else {
                x.set(10, TOLD_WRONGLY);
            }
        }

        /** Puts the monitor's PMP entries as they have to be now. */
        private void arrange() {
            for (int e = 0; e < ENCLAVES; e++) {
                Enclave own = enclaves[e];
                int rights = e == running ? Pmp.READ | Pmp.WRITE | Pmp.EXECUTE : 0;
                if (own.status == Enclave.ABSENT) {
                    protection.put(e, 0, 0);
                } else {
                    protection.put(e, Pmp.NAPOT | rights, Pmp.napot(own.base, own.size));
                }
            }
            Enclave inside = isPlace(running) ? enclaves[running] : null;
            if (inside == null || inside.sharedSize == 0) {
                protection.put(SHARE_ENTRY, 0, 0);
            } else {
                protection.put(SHARE_ENTRY, Pmp.NAPOT | Pmp.READ | Pmp.WRITE,
                        Pmp.napot(inside.shared, inside.sharedSize));
            }
            protection.put(ALL_ENTRY, inside == null ? 0 : Pmp.NAPOT, inside == null ? 0 : Pmp.ALL);
        }
    }
}
