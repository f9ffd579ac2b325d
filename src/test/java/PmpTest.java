/** Promise 10, and what PMP lets: kinds, order, partial accesses, rights, modes and locks. */
public final class PmpTest {
    private static final int DATA = 16384;

    public static void main(String[] args) {
        Check check = new Check("PmpTest");
        rights(check);
        ranges(check);
        lowestDecides(check);
        partial(check);
        inM(check);
        locks(check);
        addressBehindByte(check);
        monitorsEntries(check);
        check.end();
    }

    /** Firmware that opens what the programs need behind the entries of a test: 8 to 13 are the test's. */
    private static Code firmware(long configs, long... addresses) {
        Code code = new Code();
        for (int k = 0; k < addresses.length; k++) {
            code.csrw(Asm.PMPADDR0 + 8 + k, addresses[k]);
        }
        code.csrw(Asm.PMPADDR0 + 14, (Bench.HOST >> 2) + 255);
        code.csrw(Asm.PMPCFG2, configs | 0x1fL << 48);
        return code.csrw(Asm.MEPC, Bench.HOST).add(Asm.MRET);
    }

    private static int outcome(Code firmware, long at, int word) {
        EnclaveBoard board = Bench.inU(firmware, new Code().li(6, at).add(word), new Code());
        board.run(new Code().li(6, at).size() + 1);
        return board.state(3);
    }

    private static int loads(Code firmware, long at, int kind) {
        return outcome(firmware, at, Asm.load(kind, 7, 6, 0));
    }

    private static int stores(Code firmware, long at, int kind) {
        return outcome(firmware, at, Asm.s(kind, 6, 7, 0));
    }

    private static int fetches(Code firmware, long at) {
        Code host = new Code().li(6, at).add(Asm.jalr(0, 6, 0));
        EnclaveBoard board = Bench.inU(firmware, host, new Code());
        board.poke((int) at & ~7, (long) Asm.NOP << 32 | Asm.NOP);
        board.run(host.size() + 1);
        return board.state(3);
    }

    private static void rights(Check check) {
        for (int rights = 0; rights < 8; rights++) {
            Code code = firmware(0x18 | rights, DATA / 4 + 31);
            boolean writes = (rights & 3) == 3;
            check.due("load with " + rights, loads(code, DATA, 3), (rights & 1) != 0 ? -1 : 5);
            check.due("store with " + rights, stores(code, DATA, 3), writes ? -1 : 7);
            check.due("fetch with " + rights, fetches(code, DATA), (rights & 4) != 0 ? -1 : 1);
        }
    }

    private static void range(Check check, String what, Code code, int low, int high) {
        for (int at : new int[] {low - 1, low, high - 1, high}) {
            if (at >= 0) {
                boolean in = at >= low && at < high;
                check.due(what + " at " + at, loads(code, at, 4), in ? -1 : 5);
            }
        }
    }

    private static void ranges(Check check) {
        range(check, "NA4", firmware(0x11, DATA / 4), DATA, DATA + 4);
        range(check, "NA4 with low bits", firmware(0x11, DATA / 4 + 3), DATA + 12, DATA + 16);
        range(check, "NAPOT 8", firmware(0x19, DATA / 4), DATA, DATA + 8);
        range(check, "NAPOT 16", firmware(0x19, DATA / 4 + 1), DATA, DATA + 16);
        range(check, "NAPOT 16384", firmware(0x19, DATA / 4 + 2047), DATA, DATA + 16384);
        range(check, "NAPOT 32768", firmware(0x19, 0x2fff), 32768, 65536);
        range(check, "NAPOT all of memory", firmware(0x1d, 0x1fff), 0, 65536);
        range(check, "NAPOT 53 bits", firmware(0x1d, (1L << 53) - 1), 0, 65536);
        range(check, "NAPOT all there is", firmware(0x1d, -1), 0, 65536);
        range(check, "TOR from 0", firmware(0x09, 100), 0, 400);
        range(check, "TOR", firmware(0x0900, DATA / 4 + 1, DATA / 4 + 7), DATA + 4, DATA + 28);
        range(check, "TOR to the end", firmware(0x0900, DATA / 4, 1L << 53), DATA, 65536);
        int none = 0x0900;
        check.due("TOR of nothing", loads(firmware(none, DATA / 4, DATA / 4), DATA, 4), 5);
        check.due("TOR upside down", loads(firmware(none, DATA / 4 + 4, DATA / 4), DATA, 4), 5);
        check.due("far off", loads(firmware(0x11, (1L << 52) | DATA / 4), DATA, 4), 5);
        check.due("OFF", loads(firmware(0x07, DATA / 4 + 31), DATA, 4), 5);
        check.due("TOR of nothing decides nothing", loads(firmware(0x1d_08_00, DATA / 4 + 1, DATA / 4 + 1, -1), DATA, 3), -1);
        check.due("TOR upside down decides nothing", loads(firmware(0x1d_08_00, DATA / 4 + 1, DATA / 4, -1), DATA, 3), -1);
    }

    private static void lowestDecides(Check check) {
        check.due("less is let by the lower", loads(firmware(0x1f18, DATA / 4, -1), DATA, 3), 5);
        check.due("more is let by the lower", loads(firmware(0x1c1f, DATA / 4, -1), DATA, 3), -1);
        check.due("the higher decides behind it", loads(firmware(0x1f18, DATA / 4, -1), DATA + 8, 3), -1);
    }

    private static void partial(Check check) {
        Code low = firmware(0x1f_17, DATA / 4, -1);
        Code high = firmware(0x1f_17, DATA / 4 + 1, -1);
        for (int kind = 0; kind < 4; kind++) {
            check.due("load " + kind + " of the first half", loads(low, DATA, kind), kind == 3 ? 5 : -1);
            check.due("store " + kind + " of the first half", stores(low, DATA, kind), kind == 3 ? 7 : -1);
            check.due("load " + kind + " beside the second half", loads(high, DATA, kind), kind == 3 ? 5 : -1);
            check.due("store " + kind + " beside the second half", stores(high, DATA, kind), kind == 3 ? 7 : -1);
        }
        Code code = new Code().csrw(Asm.PMPADDR0 + 8, DATA / 4).csrw(Asm.PMPCFG2, 0x10).li(6, DATA);
        check.due("partial in M", Bench.afterM(new Code().csrw(Asm.PMPADDR0 + 8, DATA / 4).csrw(Asm.PMPCFG2, 0x10).li(6, DATA).add(Asm.ld(7, 6, 0))).state(3), 5);
        check.due("whole in M", Bench.afterM(code.add(Asm.load(2, 7, 6, 0))).state(3), -1);
    }

    private static EnclaveBoard m(long configs, long address, int... words) {
        return Bench.afterM(new Code().csrw(Asm.PMPADDR0 + 8, address).csrw(Asm.PMPCFG2, configs).li(6, DATA).add(words));
    }

    private static void inM(Check check) {
        long here = DATA / 4 + 31;
        check.due("without a lock all is let", m(0x18, here, Asm.ld(7, 6, 0), Asm.sd(7, 6, 0)).state(3), -1);
        check.due("locked, no R", m(0x98, here, Asm.ld(7, 6, 0)).state(3), 5);
        check.due("locked, R", m(0x99, here, Asm.ld(7, 6, 0)).state(3), -1);
        check.due("locked, no W", m(0x99, here, Asm.sd(7, 6, 0)).state(3), 7);
        check.due("locked, W", m(0x9b, here, Asm.sd(7, 6, 0)).state(3), -1);
        check.due("W without R is none", m(0x9a, here, Asm.sd(7, 6, 0)).state(3), 7);
        check.due("beside it", m(0x98, here, Asm.ld(7, 6, 256)).state(3), -1);
        EnclaveBoard board = m(0x9b, here, Asm.jalr(0, 6, 0));
        board.run(1);
        check.due("locked, no X", board.state(3), 1);
        check.due("VALUE", board.held(1), DATA);
        board = m(0x9c, here, Asm.jalr(0, 6, 0));
        board.poke(DATA, Asm.NOP);
        board.run(1);
        check.due("locked, X", board.state(3), -1);
    }

    private static void locks(Check check) {
        Code code = new Code().csrw(Asm.PMPADDR0 + 8, 5).csrw(Asm.PMPADDR0 + 9, 6).csrw(Asm.PMPADDR0 + 10, 7)
                .csrw(Asm.PMPCFG2, 0x00_88_00).csrw(Asm.PMPCFG2, 0x1f1f1f)
                .csrw(Asm.PMPADDR0 + 8, 50).csrw(Asm.PMPADDR0 + 9, 60).csrw(Asm.PMPADDR0 + 10, 70);
        EnclaveBoard board = Bench.afterM(code);
        check.due("no FAULT", board.state(1), 0);
        check.due("byte ahead", board.pmp(8, 0), 0x1f);
        check.due("locked byte", board.pmp(9, 0), 0x88);
        check.due("byte behind", board.pmp(10, 0), 0x1f);
        check.due("address ahead of TOR", board.pmp(8, 1), 5);
        check.due("locked address", board.pmp(9, 1), 6);
        check.due("address behind", board.pmp(10, 1), 70);
        for (int kind : new int[] {0x80, 0x90, 0x98}) {
            board = Bench.afterM(new Code().csrw(Asm.PMPCFG2, (long) kind << 8).csrw(Asm.PMPADDR0 + 8, 50).csrw(Asm.PMPADDR0 + 9, 60));
            check.due("address ahead of " + kind, board.pmp(8, 1), 50);
            check.due("address of " + kind, board.pmp(9, 1), 0);
        }
        board = Bench.afterM(new Code().csrw(Asm.PMPCFG2, 0x08L << 8).csrw(Asm.PMPADDR0 + 8, 50));
        check.due("address ahead of an open TOR", board.pmp(8, 1), 50);
        board = Bench.afterM(new Code().csrw(Asm.PMPCFG2, 0x80L << 56).csrw(Asm.PMPADDR0 + 15, 9).csrw(Asm.PMPADDR0 + 14, 8).csrw(Asm.PMPCFG2, 0));
        check.due("locked last byte", board.pmp(15, 0), 0x80);
        check.due("locked last address", board.pmp(15, 1), 0);
        check.due("the address ahead of it", board.pmp(14, 1), 8);
        board = Bench.afterM(new Code().csrw(Asm.PMPCFG2, 0x80).li(6, 0xff).add(Asm.csr(3, 7, Asm.PMPCFG2, 6)));
        check.due("CSRRC does not take a lock off", board.pmp(8, 0), 0x80);
    }

    private static void addressBehindByte(Check check) {
        long here = DATA / 4 + 31;
        Code napot = new Code().csrw(Asm.PMPCFG2, 0x98).csrw(Asm.PMPADDR0 + 8, here).li(6, DATA).add(Asm.ld(7, 6, 0));
        check.due("a locked address stays", Bench.afterM(napot).state(3), -1);
        Code later = new Code().csrw(Asm.PMPCFG2, 0x1f00).csrw(Asm.PMPADDR0 + 9, Bench.HOST / 4 + 255).csrw(Asm.PMPCFG2, 0x1f19)
                .csrw(Asm.PMPADDR0 + 8, here).csrw(Asm.MEPC, Bench.HOST).add(Asm.MRET);
        check.due("the address behind the byte", loads(later, DATA, 3), -1);
        Code lower = new Code().csrw(Asm.PMPADDR0 + 10, Bench.HOST / 4 + 255).csrw(Asm.PMPADDR0 + 9, 1L << 40)
                .csrw(Asm.PMPADDR0 + 8, 1L << 40).csrw(Asm.PMPCFG2, 0x1f0900).csrw(Asm.PMPADDR0 + 8, DATA / 4)
                .csrw(Asm.MEPC, Bench.HOST).add(Asm.MRET);
        check.due("the lower border of TOR behind the byte", loads(lower, DATA, 3), -1);
        check.due("ahead of it", loads(lower, DATA - 8, 3), 5);
    }

    private static void monitorsEntries(Check check) {
        Code code = new Code().csrw(Asm.PMPCFG0, -1);
        for (int i = 0; i < 8; i++) {
            code.csrw(Asm.PMPADDR0 + i, -1);
        }
        EnclaveBoard board = Bench.afterM(code);
        check.due("no FAULT", board.state(1), 0);
        for (int i = 0; i < 8; i++) {
            check.due("byte " + i, board.pmp(i, 0), 0);
            check.due("address " + i, board.pmp(i, 1), 0);
        }
    }
}
