/** The boundary cases that the document's section II (PMP) names, a method for each sentence. */
public final class PmpBoundaryTest {
    private static final int DATA = 20480;
    private static final int OPEN = EnclaveBoard.NONE;

    public static void main(String[] args) {
        Check check = new Check("PmpBoundaryTest");
        sixteen(check.about("16 entries"));
        granularity(check.about("granularity 4"));
        bytes(check.about("bits 0 R, 1 W, 2 X, 3 and 4 A .., 7 L; bits 5, 6 are 0; W is 0 without R"));
        kinds(check.about("A (OFF, TOR, NA4, NAPOT)"));
        tor(check.about("TOR"));
        napot(check.about("NAPOT with all 54 bits 1 is all there is"));
        lowest(check.about("The lowest entry that has one byte of an access or more decides"));
        notAll(check.about("if it has not all of them: a FAULT"));
        modeM(check.about("in mode M, if it is not locked (L): all is let; else its R, W, X"));
        modeU(check.about("else its R, W, X"));
        none(check.about("None: let in mode M, not in mode U"));
        locked(check.about("A locked entry is not changed by writes (byte and address; .."));
        aheadOfTor(check.about(".. and the address ahead of a locked one with TOR)"));
        tillReset(check.about("till reset()"));
        monitors(check.about("Entries 0 to 7 are the MONITOR's: writes of CSRs change nothing of them"));
        noEnclave(check.about("They are 0 when no enclave is live and the host (or mode M) runs"));
        memories(check.about("Entry e (0 .. 5): the memory of enclave e, NAPOT, as long as it lives: R, W, X as long as it runs, else nothing"));
        shared(check.about("As long as an enclave runs: entry 6: what it shares, NAPOT, R and W (0 if it shares nothing)"));
        all(check.about("entry 7: all, NAPOT, nothing; else both are 0"));
        check.end();
    }

    /** Firmware with entries from 8 on as a test wants them; entry 15 lets the host run where it stands. */
    private static Code firmware(long configs, long... addresses) {
        Code code = new Code();
        for (int k = 0; k < addresses.length; k++) {
            code.csrw(Asm.PMPADDR0 + 8 + k, addresses[k]);
        }
        code.csrw(Asm.PMPADDR0 + 15, (Bench.HOST >> 2) + 255).csrw(Asm.PMPCFG2, configs | 0x1cL << 56);
        return code.csrw(Asm.MEPC, Bench.HOST).add(Asm.MRET);
    }

    private static int byHost(Code firmware, long at, int word) {
        Code host = new Code().li(6, at).add(word);
        EnclaveBoard board = Bench.inU(firmware, host, new Code());
        board.run(host.size());
        return board.state(3);
    }

    private static int load(Code firmware, long at, int kind) {
        return byHost(firmware, at, Asm.load(kind, 7, 6, 0));
    }

    private static int store(Code firmware, long at, int kind) {
        return byHost(firmware, at, Asm.s(kind, 6, 7, 0));
    }

    private static int fetch(Code firmware, int at) {
        Code host = new Code().li(6, at).add(Asm.jalr(0, 6, 0));
        EnclaveBoard board = Bench.inU(firmware, host, new Code());
        board.poke(at & -8, (long) Asm.NOP << 32 | Asm.NOP);
        board.run(host.size() + 1);
        return board.state(3);
    }

    /** The bytes that an entry which lets a load has are those from low on and below high. */
    private static void range(Check check, String what, Code firmware, int low, int high) {
        for (int at : new int[] {low - 1, low, low + 1, high - 1, high, high + 1}) {
            if (at >= 0) {
                check.due(what + ": " + at, load(firmware, at, 4), at >= low && at < high ? OPEN : 5);
            }
        }
    }

    private static void sixteen(Check check) {
        for (int i = 8; i < 16; i++) {
            Code code = new Code().csrw(Asm.PMPADDR0 + i, 100 + i).csrw(Asm.PMPCFG2, 0x11L << 8 * (i - 8));
            EnclaveBoard board = Bench.afterM(code);
            for (int k = 0; k < 16; k++) {
                check.due("byte " + k + " behind " + i, board.pmp(k, 0), k == i ? 0x11 : 0);
                check.due("address " + k + " behind " + i, board.pmp(k, 1), k == i ? 100 + i : 0);
            }
        }
        check.due("no entry 16", Bench.afterM(new Code().add(Asm.csrw(Asm.PMPADDR0 + 16, 0))).state(3), 2);
        check.due("no pmpcfg4", Bench.afterM(new Code().add(Asm.csrw(Asm.PMPCFG0 + 4, 0))).state(3), 2);
    }

    private static void granularity(Check check) {
        range(check, "four bytes", firmware(0x11, DATA / 4), DATA, DATA + 4);
        range(check, "four bytes behind", firmware(0x11, DATA / 4 + 1), DATA + 4, DATA + 8);
        range(check, "the first four", firmware(0x11, 0), 0, 4);
        range(check, "the last four", firmware(0x11, 16383), 65532, 65536);
        check.due("four bytes behind memory", load(firmware(0x11, 16384), 65536, 4), 5);
    }

    private static void bytes(Check check) {
        for (int v = 0; v < 256; v++) {
            int want = v & 0x9f & ((v & 1) == 0 ? ~2 : ~0);
            int i = 8 + v % 8;
            EnclaveBoard board = Bench.afterM(new Code().csrw(Asm.PMPCFG2, (long) v << 8 * (i - 8)).add(Asm.csrr(7, Asm.PMPCFG2)));
            check.due("byte " + v + " of " + i, board.pmp(i, 0), want);
            check.due("pmpcfg2 by " + v + " of " + i, board.register(7), (long) want << 8 * (i - 8));
        }
    }

    private static void kinds(Check check) {
        check.due("OFF decides nothing", load(firmware(0x1f_07, DATA / 4, -1), DATA, 3), OPEN);
        check.due("OFF lets nothing", load(firmware(0x07, DATA / 4 + 1), DATA, 4), 5);
        range(check, "NA4 beside ones", firmware(0x11, DATA / 4 + 7), DATA + 28, DATA + 32);
        range(check, "NAPOT of 8", firmware(0x19, DATA / 4), DATA, DATA + 8);
        range(check, "NAPOT of 16", firmware(0x19, DATA / 4 + 1), DATA, DATA + 16);
        range(check, "NAPOT of 16, another", firmware(0x19, DATA / 4 + 5), DATA + 16, DATA + 32);
        range(check, "NAPOT of 32768 at 0", firmware(0x1d, 4095), 0, 32768);
        range(check, "NAPOT of 32768 to the end", firmware(0x19, 8192 + 4095), 32768, 65536);
        check.due("NAPOT far off", load(firmware(0x19, (1L << 53) + DATA / 4), DATA, 4), 5);
        check.due("NA4 far off", load(firmware(0x11, (1L << 30) + DATA / 4), DATA, 4), 5);
    }

    private static void tor(Check check) {
        range(check, "from 0 by entry 8", firmware(0x09, 25), 0, 100);
        range(check, "from the address ahead", firmware(0x09_00, DATA / 4, DATA / 4 + 3), DATA, DATA + 12);
        range(check, "from the address ahead, whatever its byte", firmware(0x09_11, DATA / 4, DATA / 4 + 3), DATA, DATA + 12);
        range(check, "to the end", firmware(0x09_00, DATA / 4, 16384), DATA, 65536);
        range(check, "beyond the end", firmware(0x09_00, DATA / 4, -1), DATA, 65536);
        range(check, "up to the last word", firmware(0x09_00, DATA / 4, 16383), DATA, 65532);
        range(check, "the last word", firmware(0x09_00, 16383, 16384), 65532, 65536);
        Code later = new Code().csrw(Asm.PMPADDR0 + 15, (Bench.HOST >> 2) + 255).csrw(Asm.PMPCFG2, 0x1cL << 56 | 0x09_00)
                .csrw(Asm.PMPADDR0 + 9, DATA / 4 + 2).csrw(Asm.PMPADDR0 + 8, DATA / 4 + 1).csrw(Asm.MEPC, Bench.HOST).add(Asm.MRET);
        range(check, "addresses behind the byte", later, DATA + 4, DATA + 8);
        range(check, "one word", firmware(0x09_00, DATA / 4, DATA / 4 + 1), DATA, DATA + 4);
        for (long high : new long[] {DATA / 4, DATA / 4 - 1, 0}) {
            Code empty = firmware(0x19_08_00, DATA / 4, high, DATA / 4);
            check.due("empty to " + high + " decides nothing", load(empty, DATA, 3), OPEN);
            check.due("empty to " + high + " lets nothing", load(firmware(0x09_00, DATA / 4, high), DATA, 4), 5);
        }
        check.due("from beyond memory", load(firmware(0x09_00, 16384, -1), 65528, 3), 5);
        check.due("of nothing at 0", load(firmware(0x09, 0), 0, 4), 5);
    }

    private static void napot(Check check) {
        range(check, "all 54", firmware(0x1d, -1), 0, 65536);
        range(check, "53 of them", firmware(0x1d, Bench.ALL >> 1), 0, 65536);
        range(check, "the lowest 0 alone", firmware(0x1d, Bench.ALL - 1 & 0x3fff | 0x2000), 65528, 65536);
        check.due("all 54 but the lowest", load(firmware(0x19, Bench.ALL - 1), 65528, 3), 5);
        check.due("all 54 but the highest, with all of memory", load(firmware(0x1d, 0x1fff), 65528, 3), OPEN);
        check.due("all there is is not more than there is", load(firmware(0x1d, -1), 65536, 3), 5);
        Code locked = new Code().csrw(Asm.PMPADDR0 + 8, -1).csrw(Asm.PMPCFG2, 0x9d);
        EnclaveBoard board = Bench.afterM(locked.add(Asm.sd(0, 0, 1024)));
        check.due("in mode M too", board.state(3), 7);
    }

    private static void lowest(Check check) {
        check.due("8 ahead of 9, closed", load(firmware(0x1f_18, DATA / 4, -1), DATA, 3), 5);
        check.due("8 ahead of 9, open", load(firmware(0x18_19, DATA / 4, DATA / 4), DATA, 3), OPEN);
        check.due("14 where all others are elsewhere", load(firmware(0x19L << 48, 0, 0, 0, 0, 0, 0, DATA / 4), DATA, 3), OPEN);
        check.due("the first byte decides", load(firmware(0x19_10, DATA / 4, DATA / 4), DATA, 3), 5);
        check.due("the last bytes decide", load(firmware(0x19_10, DATA / 4 + 1, DATA / 4), DATA, 3), 5);
        check.due("a byte beside it does not", load(firmware(0x19_10, DATA / 4 + 2, DATA / 4), DATA, 3), OPEN);
        check.due("a byte ahead of it does not", load(firmware(0x19_10, DATA / 4 - 1, DATA / 4), DATA, 3), OPEN);
        check.due("a locked one decides no earlier", load(firmware(0x98_19, DATA / 4, DATA / 4), DATA, 3), OPEN);
    }

    private static void notAll(Check check) {
        for (int word = 0; word < 2; word++) {
            Code code = firmware(0x1f_17, DATA / 4 + word, -1);
            for (int kind = 0; kind < 4; kind++) {
                check.due("load " + kind + " of word " + word, load(code, DATA + 4 * (kind == 3 ? 0 : word), kind), kind == 3 ? 5 : OPEN);
                check.due("store " + kind + " of word " + word, store(code, DATA + 4 * (kind == 3 ? 0 : word), kind), kind == 3 ? 7 : OPEN);
            }
        }
        check.due("two entries that have all together", load(firmware(0x11_11, DATA / 4, DATA / 4 + 1), DATA, 3), 5);
        for (int config : new int[] {0x10, 0x17, 0x97}) {
            Code code = new Code().csrw(Asm.PMPADDR0 + 8, DATA / 4).csrw(Asm.PMPCFG2, config).li(6, DATA);
            check.due("in mode M with " + config, Bench.afterM(code.add(Asm.ld(7, 6, 0))).state(3), 5);
            Code stores = new Code().csrw(Asm.PMPADDR0 + 8, DATA / 4 + 1).csrw(Asm.PMPCFG2, config).li(6, DATA);
            check.due("store in mode M with " + config, Bench.afterM(stores.add(Asm.sd(7, 6, 0))).state(3), 7);
        }
    }

    private static int byM(int config, int word) {
        Code code = new Code().csrw(Asm.PMPADDR0 + 8, DATA / 4).csrw(Asm.PMPCFG2, config).li(6, DATA).add(word);
        EnclaveBoard board = Bench.inM(code);
        board.poke(DATA, (long) Asm.NOP << 32 | Asm.NOP);
        board.run(code.size() + ((word & 0x7f) == 0x67 ? 1 : 0));
        return board.state(3);
    }

    private static void modeM(Check check) {
        for (int rights = 0; rights < 8; rights++) {
            boolean reads = (rights & 1) != 0;
            boolean writes = (rights & 3) == 3;
            boolean runs = (rights & 4) != 0;
            check.due("load, open, " + rights, byM(0x18 | rights, Asm.ld(7, 6, 0)), OPEN);
            check.due("store, open, " + rights, byM(0x18 | rights, Asm.sd(7, 6, 0)), OPEN);
            check.due("fetch, open, " + rights, byM(0x18 | rights, Asm.jalr(0, 6, 0)), OPEN);
            check.due("load, locked, " + rights, byM(0x98 | rights, Asm.ld(7, 6, 0)), reads ? OPEN : 5);
            check.due("store, locked, " + rights, byM(0x98 | rights, Asm.sd(7, 6, 0)), writes ? OPEN : 7);
            check.due("fetch, locked, " + rights, byM(0x98 | rights, Asm.jalr(0, 6, 0)), runs ? OPEN : 1);
            check.due("load, locked and OFF, " + rights, byM(0x80 | rights, Asm.ld(7, 6, 0)), OPEN);
        }
    }

    private static void modeU(Check check) {
        for (int lock : new int[] {0, 0x80}) {
            for (int rights = 0; rights < 8; rights++) {
                Code code = firmware(lock | 0x18 | rights, DATA / 4);
                check.due("load with " + rights, load(code, DATA, 3), (rights & 1) != 0 ? OPEN : 5);
                check.due("store with " + rights, store(code, DATA, 3), (rights & 3) == 3 ? OPEN : 7);
                check.due("fetch with " + rights, fetch(code, DATA), (rights & 4) != 0 ? OPEN : 1);
            }
        }
    }

    private static void none(Check check) {
        check.due("load in mode M", byM(0, Asm.ld(7, 6, 0)), OPEN);
        check.due("store in mode M", byM(0, Asm.sd(7, 6, 0)), OPEN);
        check.due("fetch in mode M", byM(0, Asm.jalr(0, 6, 0)), OPEN);
        check.due("load in mode U", load(firmware(0), DATA, 3), 5);
        check.due("store in mode U", store(firmware(0), DATA, 3), 7);
        check.due("fetch in mode U", fetch(firmware(0), DATA), 1);
        EnclaveBoard board = Bench.afterM(new Code().csrw(Asm.MEPC, 64).add(Asm.MRET));
        board.run(1);
        check.due("the host's first fetch", board.state(3), 1);
        check.due("the host is STOPPED", board.state(1), 1);
    }

    private static void locked(Check check) {
        for (int kind = 0x87; kind <= 0x9f; kind += 8) {
            for (int i = 8; i < 16; i++) {
                int shift = 8 * (i - 8);
                Code code = new Code().csrw(Asm.PMPADDR0 + i, 1L << 40).csrw(Asm.PMPCFG2, (long) kind << shift)
                        .csrw(Asm.PMPCFG2, 0).csrw(Asm.PMPADDR0 + i, 0).li(6, -1)
                        .add(Asm.csr(3, 0, Asm.PMPADDR0 + i, 6), Asm.csr(2, 0, Asm.PMPCFG2, 6));
                EnclaveBoard board = Bench.afterM(code);
                check.due("no FAULT", board.state(1), 0);
                check.due("byte " + kind + " of " + i, board.pmp(i, 0), kind);
                check.due("address " + kind + " of " + i, board.pmp(i, 1), 1L << 40);
                check.due("a byte beside it is changed", board.pmp(i == 8 ? 9 : i - 1, 0), 0x9f);
            }
        }
        Code once = new Code().csrw(Asm.PMPADDR0 + 8, 9).csrw(Asm.PMPCFG2, 0x9f).csrw(Asm.PMPCFG2, 0x18).csrw(Asm.PMPADDR0 + 8, 5);
        check.due("its rights stay", Bench.afterM(once).pmp(8, 0), 0x9f);
        Code open = new Code().csrw(Asm.PMPADDR0 + 8, 9).csrw(Asm.PMPCFG2, 0x1f).csrw(Asm.PMPCFG2, 0x18).csrw(Asm.PMPADDR0 + 8, 5);
        check.due("one that is not locked changes", Bench.afterM(open).pmp(8, 0), 0x18);
        check.due("and its address", Bench.afterM(open).pmp(8, 1), 5);
    }

    private static void aheadOfTor(Check check) {
        for (int i = 9; i < 16; i++) {
            for (int config : new int[] {0x88, 0x80, 0x90, 0x98, 0x08}) {
                Code code = new Code().csrw(Asm.PMPADDR0 + i - 1, 1L << 40).csrw(Asm.PMPCFG2, (long) config << 8 * (i - 8))
                        .csrw(Asm.PMPADDR0 + i - 1, 7);
                EnclaveBoard board = Bench.afterM(code);
                check.due("ahead of " + config + " at " + i, board.pmp(i - 1, 1), config == 0x88 ? 1L << 40 : 7);
            }
        }
        Code code = new Code().csrw(Asm.PMPCFG2, 0x88_00).csrw(Asm.PMPADDR0 + 8, 7).csrw(Asm.PMPADDR0 + 10, 8).csrw(Asm.PMPCFG2, 0x1f);
        EnclaveBoard board = Bench.afterM(code);
        check.due("the address behind it is changed", board.pmp(10, 1), 8);
        check.due("the byte ahead of it is changed", board.pmp(8, 0), 0x1f);
        check.due("the address ahead of it is not", board.pmp(8, 1), 0);
    }

    private static void tillReset(Check check) {
        Code code = new Code().csrw(Asm.PMPADDR0 + 8, 5).csrw(Asm.PMPADDR0 + 9, 6).csrw(Asm.PMPCFG2, 0x88_80);
        EnclaveBoard board = Bench.afterM(code);
        board.reset(0);
        for (int i = 0; i < 16; i++) {
            check.due("byte " + i, board.pmp(i, 0), 0);
            check.due("address " + i, board.pmp(i, 1), 0);
        }
        board.run(code.size());
        check.due("the address of 8 again", board.pmp(8, 1), 5);
        check.due("the address of 9 again", board.pmp(9, 1), 6);
        check.due("the byte of 9 again", board.pmp(9, 0), 0x88);
        board = byResetClosed();
        check.due("what it closed is open", board.state(3), OPEN);
    }

    /** A locked entry closes DATA, then a reset, then a load there. */
    private static EnclaveBoard byResetClosed() {
        Code code = new Code().csrw(Asm.PMPADDR0 + 8, DATA / 4).csrw(Asm.PMPCFG2, 0x98);
        EnclaveBoard board = Bench.afterM(code);
        new Code().li(6, DATA).add(Asm.ld(7, 6, 0)).into(board, 0);
        board.reset(0);
        board.run(3);
        return board;
    }

    private static void monitors(Check check) {
        EnclaveBoard others = Bench.afterM(new Code().csrw(Asm.PMPCFG2, 0x1717171717171717L).csrw(Asm.PMPADDR0 + 8, -1)
                .li(7, 5).li(8, 5).add(Asm.csrr(7, Asm.PMPCFG0), Asm.csrr(8, Asm.PMPADDR0 + 7)));
        check.due("pmpcfg0 beside entries that are not 0", others.register(7), 0);
        check.due("pmpaddr7 beside an entry that is not 0", others.register(8), 0);
        for (int kind : new int[] {1, 2, 5, 6}) {
            Code code = new Code().li(31, -1).add(Asm.csr(kind, 7, Asm.PMPCFG0, 31));
            for (int i = 0; i < 8; i++) {
                code.add(Asm.csr(kind, 7, Asm.PMPADDR0 + i, 31));
            }
            EnclaveBoard board = Bench.afterM(code.add(Asm.csrr(8, Asm.PMPCFG0), Asm.csrr(9, Asm.PMPADDR0 + 7)));
            check.due("no FAULT", board.state(1), 0);
            check.due("pmpcfg0", board.register(8), 0);
            check.due("pmpaddr7", board.register(9), 0);
            for (int i = 0; i < 16; i++) {
                check.due("byte " + i, board.pmp(i, 0), 0);
                check.due("address " + i, board.pmp(i, 1), 0);
            }
        }
    }

    private static void dueZero(Check check, String what, EnclaveBoard board, int from, int end) {
        for (int i = from; i < end; i++) {
            check.due(what + ": byte " + i, board.pmp(i, 0), 0);
            check.due(what + ": address " + i, board.pmp(i, 1), 0);
        }
    }

    private static void noEnclave(Check check) {
        dueZero(check, "mode M", Bench.afterM(new Code().add(Asm.NOP)), 0, 8);
        dueZero(check, "the host", Bench.afterU(new Code().add(Asm.NOP)), 0, 8);
        dueZero(check, "behind a CREATE that is refused", Bench.afterU(new Code().create(8, 32, 0, 0, 0, 0, 0)), 0, 8);
        Code host = Bench.made().enter(0, 2).call(3, 0);
        EnclaveBoard board = Bench.inU(host, new Code().add(Asm.NOP, Asm.NOP));
        board.run(host.size() + 2);
        check.due("destroyed", board.enclave(0, 0), 0);
        dueZero(check, "behind DESTROY", board, 0, 8);
        board = Bench.entered(new Code().add(Asm.NOP), 0);
        board.reset(0);
        dueZero(check, "behind reset in a stay", board, 0, 8);
    }

    private static void memories(Check check) {
        Code host = new Code();
        for (int e = 0; e < 6; e++) {
            host.create(Bench.BASE + (32 << e), 32L << e, Bench.IMAGE, 8, 0, 0, 0);
        }
        int made = host.size();
        host.enter(5, 1).enter(0, 1).call(3, 3);
        EnclaveBoard board = Bench.inU(host, new Code().add(Asm.NOP, Asm.NOP));
        board.run(made);
        dueMemories(check, board, -1, -1);
        board.run(4);
        dueMemories(check, board, 5, -1);
        board.run(1 + 4);
        dueMemories(check, board, 0, -1);
        board.run(1);
        dueMemories(check, board, -1, -1);
        board.run(3);
        dueMemories(check, board, -1, 3);
    }

    private static void dueMemories(Check check, EnclaveBoard board, int runs, int gone) {
        check.due("the one that runs", board.state(2), runs);
        for (int e = 0; e < 6; e++) {
            String what = e + " as long as " + runs + " runs";
            check.due("byte " + what, board.pmp(e, 0), e == gone ? 0 : e == runs ? 0x1f : 0x18);
            check.due("address " + what, board.pmp(e, 1), e == gone ? 0 : (Bench.BASE + (32L << e)) / 4 + (4L << e) - 1);
        }
    }

    private static EnclaveBoard inside(long base, long size, long shared, long sharedSize) {
        Code host = new Code().create(base, size, Bench.IMAGE, 4, 0, shared, sharedSize).enter(0, 1).add(Asm.NOP);
        EnclaveBoard board = Bench.inU(host, new Code().add(Asm.NOP));
        board.run(host.size() - 1);
        return board;
    }

    private static void shared(Check check) {
        for (int size = 8; size <= 4096; size *= 2) {
            EnclaveBoard board = inside(Bench.BASE, 32, 65536 - size, size);
            check.due("byte 6 of " + size, board.pmp(6, 0), 0x1b);
            check.due("address 6 of " + size, board.pmp(6, 1), (65536 - size) / 4 + size / 8 - 1);
            board.run(1);
            dueZero(check, "left", board, 6, 8);
        }
        dueZero(check, "shares nothing", inside(Bench.BASE, 32, 12288, 0), 6, 7);
        check.due("shares at 0", inside(Bench.BASE, 32, 0, 8).pmp(6, 0), 0x1b);
        check.due("shares at 0: address", inside(Bench.BASE, 32, 0, 8).pmp(6, 1), 0);
        long here = Bench.SHARED;
        check.due("loads the first", inEnclave(here, Asm.ld(7, 6, 0)), OPEN);
        check.due("stores the last", inEnclave(here, Asm.sd(7, 6, 56)), OPEN);
        check.due("loads ahead", inEnclave(here, Asm.ld(7, 6, -8)), 5);
        check.due("loads behind", inEnclave(here, Asm.ld(7, 6, 64)), 5);
        check.due("stores behind", inEnclave(here, Asm.s(0, 6, 7, 64)), 7);
    }

    private static long inEnclave(long x6, int word) {
        EnclaveBoard board = Bench.afterEnclave(new Code().li(6, x6).add(word));
        return board.state(2) == 0 ? OPEN : board.register(11);
    }

    private static void all(Check check) {
        for (long sharedSize : new long[] {0, 8}) {
            EnclaveBoard board = inside(49152, 16384, 0, sharedSize);
            check.due("byte 7", board.pmp(7, 0), 0x18);
            check.due("address 7", board.pmp(7, 1), Bench.ALL);
            board.run(1);
            dueZero(check, "left", board, 6, 8);
        }
        check.due("loads the last of its memory", inEnclave(Bench.BASE, Asm.ld(7, 6, 248)), OPEN);
        check.due("loads behind its memory", inEnclave(Bench.BASE, Asm.ld(7, 6, 256)), 5);
        check.due("loads ahead of its memory", inEnclave(Bench.BASE, Asm.load(4, 7, 6, -1)), 5);
        check.due("stores at 0", inEnclave(0, Asm.sd(7, 6, 0)), 7);
        torBehindAStay(check);
    }

    /** A TOR entry 8 begins at the address of entry 7: at 0 again as soon as the host goes on. */
    private static void torBehindAStay(Check check) {
        Code firmware = new Code().csrw(Asm.PMPADDR0 + 8, 16384).csrw(Asm.PMPCFG2, 0x0f).csrw(Asm.MEPC, Bench.HOST).add(Asm.MRET);
        Code host = Bench.made().enter(0, 1).add(Asm.ld(7, 0, 0)).create(32768, 32, 0, 0, 0, 0, 0);
        EnclaveBoard board = Bench.inU(firmware, host, new Code().add(Asm.NOP));
        board.run(host.size() + 1);
        check.due("the host goes on", board.state(1), 0);
        check.due("and may make another", board.register(10), 1);
    }
}
