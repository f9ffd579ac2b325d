/** The boundary cases that the document's section I (THE HART) names, a method for each sentence. */
public final class HartBoundaryTest {
    private static final int DATA = 1024;
    private static final String[] RUNNERS = {"mode M", "the host", "an enclave"};

    public static void main(String[] args) {
        Check check = new Check("HartBoundaryTest");
        doNothing(check.about("FENCE, FENCE.I, WFI (in both modes) do nothing"));
        noOthers(check.about("no compressed instructions, no others: ILLEGAL"));
        memoryLoads(check.about("MEMORY: bytes at 0 .. 65535"));
        memoryFetches(check.about("there is nothing else"));
        littleEndian(check.about("little-endian"));
        addresses(check.about("Addresses are 64 bits without sign"));
        steps(check.about("STEPS: one for each instruction, also one that does not come to its end by a fault"));
        order(check.about("FAULTS, of an instruction the first of"));
        oddPc(check.about("0 the pc, .. is no multiple of 4"));
        jumps(check.about("where a jump or taken branch (then with the pc of the jump) goes, is no multiple of 4"));
        fetches(check.about("1 fetch where there is no memory or PMP lets none run"));
        breaks(check.about("3 EBREAK"));
        aligned(check.about("4 a load, 6 a store at no multiple of its size"));
        refused(check.about("5 a load, 7 a store where there is no memory or PMP does not let it"));
        changesNothing(check.about("An instruction with a FAULT changes nothing (JAL, JALR do not write their register)"));
        values(check.about("Its VALUE: 0, 1, 4 to 7 the address (of 1 the pc), 2 the 32 bits, 3 the pc"));
        check.end();
    }

    private static EnclaveBoard after(int runner, Code code) {
        return runner == 0 ? Bench.afterM(code) : runner == 1 ? Bench.afterU(code) : Bench.afterEnclave(code);
    }

    /** The number of the FAULT that the program's last word made, NONE if it made none. */
    private static long number(int runner, EnclaveBoard board) {
        if (runner < 2) {
            return board.state(3);
        }
        boolean faulted = board.enclave(0, 0) == 3 && board.register(10) == 2;
        return faulted ? board.register(11) : EnclaveBoard.NONE;
    }

    private static long number(int runner, Code code) {
        return number(runner, after(runner, code));
    }

    private static long pc(int runner, EnclaveBoard board) {
        return runner < 2 ? board.held(0) : board.eye(0, 32);
    }

    private static long register(int runner, EnclaveBoard board, int k) {
        return runner < 2 ? board.register(k) : board.eye(0, k);
    }

    private static int start(int runner) {
        return runner == 0 ? 0 : runner == 1 ? Bench.HOST : Bench.BASE;
    }

    private static void doNothing(Check check) {
        for (int runner = 0; runner < 3; runner++) {
            for (int word : new int[] {Asm.FENCE, Asm.FENCE_I, Asm.WFI}) {
                String what = Integer.toHexString(word) + " by " + RUNNERS[runner];
                EnclaveBoard board = after(runner, new Code().add(word));
                check.due(what, number(runner, board), EnclaveBoard.NONE);
                check.due(what + ": pc", pc(runner, board), start(runner) + 4);
                for (int k = 1; k < 32; k++) {
                    boolean firmwares = runner == 1 && k == 5;
                    check.due(what + ": x" + k, register(runner, board, k), firmwares ? Bench.HOST : 0);
                }
            }
        }
    }

    private static void noOthers(Check check) {
        int[] words = {
            0, -1, 0x00000001, 0x00004501, 0x0000fffe, 0x0000202f, 0x0000302f, 0x00000007, 0x00000027, 0x00000053, 0x0000005b,
            0x10200073, 0x00200073, 0x70200073, 0x7b200073, 0x12000073, 0x10508073, 0x105000f3, 0x00008073, 0x00108073,
            Asm.csr(4, 0, Asm.MSCRATCH, 0), Asm.load(7, 1, 0, 0), Asm.s(4, 0, 0, 0), Asm.branch(2, 0, 0, 8), Asm.branch(3, 0, 0, 8),
            Asm.i(0x67, 1, 1, 0, 0), Asm.i(0x0f, 2, 0, 0, 0), Asm.r(0x33, 0, 2, 1, 0, 0), Asm.r(0x3b, 2, 0, 1, 0, 0),
            Asm.i(0x13, 1, 1, 0, 0x40), Asm.i(0x13, 5, 1, 0, 0x440), Asm.i(0x1b, 1, 1, 0, 0x20), Asm.i(0x1b, 5, 1, 0, 0x420)
        };
        for (int runner = 0; runner < 3; runner++) {
            for (int word : words) {
                String what = Integer.toHexString(word) + " by " + RUNNERS[runner];
                EnclaveBoard board = after(runner, new Code().add(word));
                check.due(what, number(runner, board), 2);
                check.due(what + ": pc", pc(runner, board), start(runner));
            }
        }
    }

    private static void memoryLoads(Check check) {
        for (int kind = 0; kind < 7; kind++) {
            int size = 1 << (kind & 3);
            long[][] rows = {{0, -1}, {65536 - size, -1}, {65536, 5}, {-size, 5}, {131072, 5}, {1L << 32, 5}, {Long.MIN_VALUE, 5}, {(1L << 32) + 65536 - size, 5}};
            for (long[] row : rows) {
                check.due("load " + kind + " at " + row[0], number(0, new Code().li(6, row[0]).add(Asm.load(kind, 7, 6, 0))), row[1]);
                if (kind < 4) {
                    long want = row[1] == 5 ? 7 : -1;
                    check.due("store " + kind + " at " + row[0], number(0, new Code().li(6, row[0]).add(Asm.s(kind, 6, 0, 0))), want);
                }
            }
        }
        EnclaveBoard board = Bench.afterM(new Code().li(7, -1).li(6, 65535).add(Asm.s(0, 6, 7, 0)));
        check.due("the last byte is stored", board.peek(65528), 0xffL << 56);
    }

    private static void memoryFetches(Check check) {
        EnclaveBoard board = new EnclaveBoard(0);
        board.poke(65528, (long) Asm.addi(1, 0, 3) << 32);
        board.reset(65532);
        check.due("the last word runs, the one behind it does not", board.run(3), 2);
        check.due("x1", board.register(1), 3);
        check.due("number", board.state(3), 1);
        check.due("VALUE", board.held(1), 65536);
        for (long pc : new long[] {65536, 131072, 1L << 32, Long.MIN_VALUE, -4}) {
            board = Bench.inM(new Code().add(Asm.NOP));
            board.reset(pc);
            board.run(1);
            check.due("fetch at " + pc, board.state(3), 1);
        }
    }

    private static void littleEndian(Check check) {
        for (int k = 0; k < 8; k++) {
            EnclaveBoard board = Bench.inM(new Code().li(6, DATA).add(Asm.load(4, 7, 6, k), Asm.s(0, 6, 7, 16 + 7 - k)));
            board.poke(DATA, 0x8877665544332211L);
            board.run(3);
            check.due("byte " + k, board.register(7), 0x11 * (k + 1));
            check.due("stored at " + (7 - k), board.peek(DATA + 16), (long) 0x11 * (k + 1) << 8 * (7 - k));
        }
    }

    private static void addresses(Check check) {
        EnclaveBoard board = Bench.inM(new Code().li(6, -8).add(Asm.ld(7, 6, DATA + 8), Asm.sd(7, 6, DATA + 16)));
        board.poke(DATA, 77);
        board.run(3);
        check.due("a load that wraps around", board.register(7), 77);
        check.due("a store that wraps around", board.peek(DATA + 8), 77);
        check.due("JALR that wraps around", Bench.afterM(new Code().li(6, -4).add(Asm.jalr(1, 6, 12))).held(0), 8);
        farOffsets(check);
        board = Bench.afterM(new Code().li(6, Long.MAX_VALUE).add(Asm.load(0, 7, 6, 1)));
        check.due("behind the highest with sign", board.held(1), Long.MIN_VALUE);
        board = Bench.afterM(new Code().add(Asm.load(0, 7, 0, -1)));
        check.due("ahead of 0: number", board.state(3), 5);
        check.due("ahead of 0: VALUE", board.held(1), -1);
        for (int word : new int[] {Asm.jal(1, -8), Asm.branch(0, 0, 0, -8)}) {
            board = Bench.afterM(new Code().add(Asm.NOP, word));
            check.due("a jump ahead of 0 is done", board.held(0), -4);
            check.due("without a FAULT", board.state(1), 0);
            board.run(1);
            check.due("the fetch there is none", board.state(3), 1);
            check.due("VALUE", board.held(1), -4);
        }
    }

    private static void farOffsets(Check check) {
        for (int offset : new int[] {0xffffc, 0x80000, 0x1000, 0x800, 0x400, -4, -0x800, -0x1000, -0x100000}) {
            check.due("JAL by " + offset, Bench.afterM(new Code().add(Asm.NOP, Asm.jal(1, offset))).held(0), 4L + offset);
        }
        for (int offset : new int[] {0xffc, 0x800, 0x7fc, 0x400, -4, -0x800, -0x1000}) {
            check.due("BEQ by " + offset, Bench.afterM(new Code().add(Asm.NOP, Asm.branch(0, 0, 0, offset))).held(0), 4L + offset);
        }
        for (int offset : new int[] {2047, 1, -1, -2048}) {
            check.due("LB by " + offset, Bench.afterM(new Code().li(6, 1L << 40).add(Asm.load(0, 7, 6, offset))).held(1), (1L << 40) + offset);
            check.due("SB by " + offset, Bench.afterM(new Code().li(6, 1L << 40).add(Asm.s(0, 6, 7, offset))).held(1), (1L << 40) + offset);
            check.due("JALR by " + offset, Bench.afterM(new Code().li(6, 1L << 40).add(Asm.jalr(7, 6, offset & -4))).held(0), (1L << 40) + (offset & -4));
        }
    }

    private static void steps(Check check) {
        for (int word : new int[] {0, Asm.EBREAK, Asm.jal(0, 6), Asm.ld(1, 0, 1), Asm.ld(1, 0, -8), Asm.sd(1, 0, 1), Asm.sd(1, 0, -8)}) {
            String what = Integer.toHexString(word);
            check.due(what + " in mode M", Bench.afterM(new Code().add(Asm.NOP, word)).state(4), 2);
            EnclaveBoard host = Bench.afterU(new Code().add(Asm.NOP, word));
            check.due(what + " by the host", host.state(4), Bench.openFirmware().size() + 2);
            EnclaveBoard board = Bench.entered(new Code().add(Asm.NOP, word), 0);
            int ahead = board.state(4);
            check.due("run", board.run(2), 2);
            check.due(what + " by an enclave", board.state(4), ahead + 2);
            check.due(what + " of its stay", board.enclave(0, 7), 2);
        }
        check.due("ECALL in mode M", Bench.afterM(new Code().add(Asm.ECALL)).state(4), 1);
    }

    private static void order(Check check) {
        check.due("0 ahead of 1", resetTo(65538).state(3), 0);
        check.due("0 of a jump to where no memory is", number(0, new Code().li(6, 65538).add(Asm.jalr(1, 6, 0))), 0);
        check.due("1 ahead of 2", closedWord(0).state(3), 1);
        check.due("1 ahead of 3", closedWord(Asm.EBREAK).state(3), 1);
        check.due("1 ahead of 4", closedWord(Asm.ld(1, 0, 1)).state(3), 1);
        check.due("2 ahead of 4", number(0, new Code().add(Asm.load(7, 1, 0, 1))), 2);
        check.due("2 ahead of 6", number(0, new Code().add(Asm.s(4, 0, 0, 1))), 2);
        check.due("2 ahead of 5", number(0, new Code().add(Asm.load(7, 1, 0, -8))), 2);
        check.due("2 ahead of 7", number(0, new Code().add(Asm.s(4, 0, 0, -8))), 2);
        check.due("2 ahead of 0", number(0, new Code().add(Asm.i(0x67, 1, 1, 0, 2))), 2);
        for (int runner = 0; runner < 3; runner++) {
            check.due("4 ahead of 5, " + RUNNERS[runner], number(runner, new Code().add(Asm.ld(1, 0, -7))), 4);
            check.due("6 ahead of 7, " + RUNNERS[runner], number(runner, new Code().add(Asm.sd(1, 0, -7))), 6);
        }
        check.due("4 ahead of 5 by PMP", number(2, new Code().add(Asm.ld(1, 0, 4))), 4);
        check.due("6 ahead of 7 by PMP", number(2, new Code().add(Asm.sd(1, 0, 4))), 6);
    }

    private static EnclaveBoard resetTo(long pc) {
        EnclaveBoard board = new EnclaveBoard(0);
        board.reset(pc);
        board.run(1);
        return board;
    }

    /** The host jumps to a word that PMP lets it read and write but not run. */
    private static EnclaveBoard closedWord(int word) {
        Code firmware = new Code().csrw(Asm.PMPADDR0 + 8, Bench.BASE / 4).csrw(Asm.PMPADDR0 + 9, -1).csrw(Asm.PMPCFG2, 0x1f13)
                .csrw(Asm.MEPC, Bench.BASE).add(Asm.MRET);
        EnclaveBoard board = Bench.inU(firmware, new Code(), new Code());
        board.poke(Bench.BASE, word);
        board.run(1);
        return board;
    }

    private static void oddPc(Check check) {
        for (long pc : new long[] {1, 2, 3, 5, 65534, 65535, 65537, -1, -2, -3, Long.MAX_VALUE}) {
            EnclaveBoard board = resetTo(pc);
            check.due("DOWN at " + pc, board.state(1), 2);
            check.due("number at " + pc, board.state(3), 0);
            check.due("VALUE at " + pc, board.held(1), pc);
            check.due("pc at " + pc, board.held(0), pc);
        }
        for (long pc : new long[] {0, 4, 65532}) {
            check.due("a multiple of 4: " + pc, resetTo(pc).state(3), 2);
        }
    }

    private static void jumps(Check check) {
        for (int runner = 0; runner < 3; runner++) {
            for (int off = 0; off < 4; off++) {
                Code byRegister = new Code().li(6, start(runner) + 64 + off).add(Asm.jalr(1, 6, 0));
                jump(check, "JALR " + off, runner, byRegister, off >= 2);
            }
            jump(check, "JALR by its number", runner, new Code().li(6, start(runner) + 64).add(Asm.jalr(1, 6, 2)), true);
            for (int off = 0; off < 4; off += 2) {
                jump(check, "JAL " + off, runner, new Code().add(Asm.jal(1, 64 + off)), off == 2);
                jump(check, "BEQ " + off, runner, new Code().add(Asm.branch(0, 0, 0, 64 + off)), off == 2);
                Code notTaken = new Code().add(Asm.branch(1, 0, 0, 64 + off));
                EnclaveBoard board = after(runner, notTaken);
                check.due("BNE not taken " + off, number(runner, board), EnclaveBoard.NONE);
                check.due("BNE not taken " + off + ": pc", pc(runner, board), start(runner) + 4);
            }
        }
    }

    private static void jump(Check check, String what, int runner, Code code, boolean goesWrong) {
        EnclaveBoard board = after(runner, code);
        String who = what + " by " + RUNNERS[runner];
        long here = start(runner) + code.bytes() - 4;
        boolean links = (code.word(code.size() - 1) & 0x7f) != 0x63;
        check.due(who, number(runner, board), goesWrong ? 0 : EnclaveBoard.NONE);
        check.due(who + ": pc", pc(runner, board), goesWrong ? here : start(runner) + 64);
        check.due(who + ": x1", register(runner, board, 1), links && !goesWrong ? here + 4 : 0);
        if (runner < 2) {
            check.due(who + ": VALUE", board.held(1), goesWrong ? start(runner) + 66 : 0);
        }
        if (runner == 0) {
            check.due(who + ": mepc", board.held(4), goesWrong ? here : 0);
        }
    }

    private static void fetches(Check check) {
        Code away = new Code().li(6, 65536).add(Asm.jalr(1, 6, 0));
        for (int runner = 0; runner < 3; runner++) {
            EnclaveBoard board = after(runner, away);
            check.due("the jump is done by " + RUNNERS[runner], pc(runner, board), 65536);
            check.due("it links", register(runner, board, 1), start(runner) + away.bytes());
            board.run(1);
            check.due("no memory for " + RUNNERS[runner], number(runner, board), 1);
            check.due("pc where there is none", pc(runner, board), 65536);
        }
        EnclaveBoard board = closedWord(Asm.NOP);
        check.due("PMP lets none run: STOPPED", board.state(1), 1);
        check.due("PMP lets none run", board.state(3), 1);
        check.due("VALUE", board.held(1), Bench.BASE);
        Code locked = new Code().csrw(Asm.PMPADDR0 + 8, DATA / 4).csrw(Asm.PMPCFG2, 0x93).li(6, DATA).add(Asm.jalr(0, 6, 0), Asm.NOP);
        board = Bench.inM(locked);
        board.poke(DATA, Asm.NOP);
        board.run(locked.size());
        check.due("PMP lets mode M run none", board.state(3), 1);
        board = Bench.afterEnclave(new Code().add(Asm.jal(0, 256)));
        board.run(1);
        check.due("behind an enclave's memory", number(2, board), 1);
        board = Bench.afterEnclave(new Code().add(Asm.jal(0, 252)));
        board.run(1);
        check.due("the last word of an enclave's memory", number(2, board), 2);
    }

    private static void breaks(Check check) {
        for (int runner = 0; runner < 3; runner++) {
            EnclaveBoard board = after(runner, new Code().add(Asm.NOP, Asm.EBREAK));
            check.due("by " + RUNNERS[runner], number(runner, board), 3);
            check.due("pc", pc(runner, board), start(runner) + 4);
            check.due("VALUE", board.held(1), runner < 2 ? start(runner) + 4 : 0);
        }
    }

    private static void aligned(Check check) {
        for (int runner = 0; runner < 3; runner++) {
            int data = runner == 2 ? Bench.SHARED : DATA;
            for (int kind = 0; kind < 7; kind++) {
                for (int off = 0; off < 8; off++) {
                    String what = kind + " at " + off + " by " + RUNNERS[runner];
                    boolean odd = off % (1 << (kind & 3)) != 0;
                    check.due("load " + what, number(runner, new Code().li(6, data).add(Asm.load(kind, 7, 6, off))), odd ? 4 : -1);
                    if (kind < 4) {
                        check.due("store " + what, number(runner, new Code().li(6, data).add(Asm.s(kind, 6, 7, off))), odd ? 6 : -1);
                    }
                }
            }
        }
    }

    private static void refused(Check check) {
        for (int runner = 0; runner < 3; runner++) {
            check.due("load of none by " + RUNNERS[runner], number(runner, new Code().li(6, 65536).add(Asm.load(4, 7, 6, 0))), 5);
            check.due("store of none by " + RUNNERS[runner], number(runner, new Code().li(6, 65536).add(Asm.s(0, 6, 7, 0))), 7);
        }
        check.due("load that PMP does not let", number(2, new Code().add(Asm.ld(7, 0, 0))), 5);
        check.due("store that PMP does not let", number(2, new Code().add(Asm.sd(7, 0, 0))), 7);
        check.due("load that a locked entry does not let", number(0, lockedData().add(Asm.load(2, 7, 6, 0))), 5);
        check.due("store that a locked entry does not let", number(0, lockedData().add(Asm.s(2, 6, 7, 0))), 7);
        check.due("load behind the locked entry", number(0, lockedData().add(Asm.load(2, 7, 6, 4))), EnclaveBoard.NONE);
        check.due("store ahead of the locked entry", number(0, lockedData().add(Asm.s(2, 6, 7, -4))), EnclaveBoard.NONE);
    }

    /** Firmware that locks four bytes at DATA and has x6 point there. */
    private static Code lockedData() {
        return new Code().csrw(Asm.PMPADDR0 + 8, DATA / 4).csrw(Asm.PMPCFG2, 0x90).li(6, DATA);
    }

    private static void changesNothing(Check check) {
        int[] words = {
            Asm.jal(6, 66), Asm.jalr(6, 6, 2), Asm.branch(0, 6, 6, 66), Asm.ld(6, 6, 1), Asm.ld(6, 0, -8), Asm.load(7, 6, 6, 0),
            Asm.sd(6, 6, 1), Asm.sd(6, 0, -8), Asm.EBREAK, Asm.csr(1, 6, 0x301, 6), Asm.csr(1, 6, Asm.MINSTRET, 6), Asm.csr(2, 6, Asm.MHARTID, 6)
        };
        for (int runner = 0; runner < 3; runner++) {
            for (int word : words) {
                Code code = new Code().li(6, start(runner) + 128).add(word);
                EnclaveBoard board = after(runner, code);
                String what = Integer.toHexString(word) + " by " + RUNNERS[runner];
                check.due(what + ": x6", register(runner, board, 6), start(runner) + 128);
                check.due(what + ": pc", pc(runner, board), start(runner) + code.bytes() - 4);
                check.due(what + ": memory", runner < 2 ? board.peek(start(runner) + 128) : board.eye(0, 35 + 16), 0);
                check.due(what + ": memory at 0", board.peek(65528), 0);
            }
        }
        EnclaveBoard board = Bench.afterU(new Code().li(6, 9).add(Asm.csr(1, 6, Asm.MSCRATCH, 6)));
        check.due("mscratch is not written by the host", board.held(3), 0);
        check.due("x6", board.register(6), 9);
    }

    private static void values(Check check) {
        long[][] rows = {
            {Asm.jal(1, 66), 0, 66}, {Asm.branch(0, 0, 0, 66), 0, 66}, {Asm.jalr(1, 0, -1), 0, -2}, {-1, 2, 0xffffffffL}, {0, 2, 0},
            {Asm.EBREAK, 3, 0}, {Asm.ld(1, 0, 1), 4, 1}, {Asm.ld(1, 0, -1), 4, -1}, {Asm.ld(1, 0, -8), 5, -8},
            {Asm.sd(1, 0, 1), 6, 1}, {Asm.sd(1, 0, -1), 6, -1}, {Asm.sd(1, 0, -8), 7, -8}
        };
        for (long[] row : rows) {
            for (int runner = 0; runner < 2; runner++) {
                String what = Long.toHexString(row[0]) + " by " + RUNNERS[runner];
                EnclaveBoard board = after(runner, new Code().add((int) row[0]));
                boolean fromPc = row[1] == 3 || row[1] == 0 && row[2] > 0;
                check.due(what, board.state(3), row[1]);
                check.due(what + ": VALUE", board.held(1), row[2] + (fromPc ? start(runner) : 0));
                check.due(what + ": mtval", board.held(6), runner == 0 ? row[2] : 0);
            }
        }
        check.due("of 1 the pc", resetTo(1L << 40).held(1), 1L << 40);
        check.due("of 0 the pc", resetTo(-3).held(1), -3);
    }
}
