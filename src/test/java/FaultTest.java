/** The FAULTS of instructions in mode M and of the host: their order, numbers and VALUES, and that nothing changes. */
public final class FaultTest {
    public static void main(String[] args) {
        Check check = new Check("FaultTest");
        jumps(check);
        branches(check);
        fetches(check);
        illegal(check);
        legal(check);
        loads(check);
        stores(check);
        hostStops(check);
        check.end();
    }

    /** Runs a program whose last word is expected to make the FAULT. */
    private static EnclaveBoard fault(Check check, String what, Code code, int number, long value) {
        EnclaveBoard board = Bench.afterM(code);
        int pc = code.bytes() - 4;
        check.due(what + ": DOWN", board.state(1), 2);
        check.due(what + ": number", board.state(3), number);
        check.due(what + ": VALUE", board.held(1), value);
        check.due(what + ": pc", board.held(0), pc);
        check.due(what + ": mepc", board.held(4), pc);
        check.due(what + ": mcause", board.held(5), number);
        check.due(what + ": mtval", board.held(6), value);
        check.due(what + ": STEPS", board.state(4), code.size());
        return board;
    }

    private static void jumps(Check check) {
        EnclaveBoard board = fault(check, "JAL to 2 off", new Code().add(Asm.NOP, Asm.jal(1, 6)), 0, 10);
        check.due("JAL writes nothing", board.register(1), 0);
        board = fault(check, "JALR to 2 off", new Code().li(2, 102).add(Asm.jalr(1, 2, 0)), 0, 102);
        check.due("JALR writes nothing", board.register(1), 0);
        fault(check, "JALR to 3 off", new Code().li(2, 103).add(Asm.jalr(1, 2, 0)), 0, 102);
        fault(check, "JALR where no memory is, 2 off", new Code().li(2, -2).add(Asm.jalr(1, 2, 0)), 0, -2);
        board = Bench.afterM(new Code().li(2, 101).add(Asm.jalr(2, 2, 0)));
        check.due("JALR takes off the lowest bit", board.held(0), 100);
        check.due("JALR links", board.register(2), 8);
        board = Bench.afterM(new Code().add(Asm.jal(1, 0x4000)));
        check.due("JAL", board.held(0), 0x4000);
        check.due("JAL links", board.register(1), 4);
        board = Bench.inM(new Code().add(Asm.jal(1, -4)));
        board.run(1);
        check.due("JAL backwards", board.held(0), -4);
        check.due("no FAULT yet", board.state(1), 0);
        check.due("then there is", board.run(3), 1);
        check.due("fetch", board.state(3), 1);
        check.due("where", board.held(1), -4);
    }

    private static void branches(Check check) {
        long[][] pairs = {{0, 0}, {1, 2}, {2, 1}, {-1, 1}, {1, -1}, {Long.MIN_VALUE, Long.MAX_VALUE}};
        int[] kinds = {0, 1, 4, 5, 6, 7};
        for (long[] pair : pairs) {
            long a = pair[0];
            long b = pair[1];
            boolean below = a + Long.MIN_VALUE < b + Long.MIN_VALUE;
            boolean[] taken = {a == b, a != b, a < b, a >= b, below, !below};
            for (int k = 0; k < kinds.length; k++) {
                Code code = new Code().li(1, a).li(2, b).add(Asm.branch(kinds[k], 1, 2, 4092));
                EnclaveBoard board = Bench.afterM(code);
                int pc = code.bytes() - 4;
                check.due("branch " + kinds[k] + " of " + a + ", " + b, board.held(0), taken[k] ? pc + 4092 : pc + 4);
                code = new Code().li(1, a).li(2, b).add(Asm.branch(kinds[k], 1, 2, -4096));
                board = Bench.afterM(code);
                check.due("backwards", board.held(0), taken[k] ? pc - 4096 : pc + 4);
                code = new Code().li(1, a).li(2, b).add(Asm.branch(kinds[k], 1, 2, 10));
                if (taken[k]) {
                    fault(check, "branch to 2 off", code, 0, pc + 10);
                } else {
                    check.due("not taken to 2 off", Bench.afterM(code).held(0), pc + 4);
                }
            }
        }
    }

    private static void fetches(Check check) {
        EnclaveBoard board = new EnclaveBoard(0);
        board.poke(65528, (long) Asm.addi(1, 0, 3) << 32);
        board.reset(65532);
        check.due("the last word runs", board.run(5), 2);
        check.due("x1", board.register(1), 3);
        check.due("behind it", board.state(3), 1);
        check.due("VALUE", board.held(1), 65536);
        check.due("pc", board.held(0), 65536);
    }

    private static void illegal(Check check) {
        int[] words = {
            0, -1, 0x00000001, 0x00004501, Asm.i(0x03, 7, 1, 0, 0), Asm.s(4, 0, 0, 0), Asm.s(7, 0, 0, 0),
            Asm.i(0x0f, 2, 0, 0, 0), Asm.i(0x0f, 7, 0, 0, 0),
            Asm.i(0x13, 1, 1, 1, 0x040), Asm.i(0x13, 1, 1, 1, 0x400), Asm.i(0x13, 1, 1, 1, 0x800),
            Asm.i(0x13, 5, 1, 1, 0x040), Asm.i(0x13, 5, 1, 1, 0x200), Asm.i(0x13, 5, 1, 1, 0x440), Asm.i(0x13, 5, 1, 1, 0x800),
            Asm.i(0x1b, 1, 1, 1, 0x020), Asm.i(0x1b, 1, 1, 1, 0x400), Asm.i(0x1b, 5, 1, 1, 0x020), Asm.i(0x1b, 5, 1, 1, 0x420),
            Asm.i(0x1b, 2, 1, 1, 0), Asm.i(0x1b, 3, 1, 1, 0), Asm.i(0x1b, 4, 1, 1, 0), Asm.i(0x1b, 6, 1, 1, 0), Asm.i(0x1b, 7, 1, 1, 0),
            Asm.r(0x33, 1, 0x20, 1, 2, 3), Asm.r(0x33, 2, 0x20, 1, 2, 3), Asm.r(0x33, 3, 0x20, 1, 2, 3), Asm.r(0x33, 4, 0x20, 1, 2, 3),
            Asm.r(0x33, 6, 0x20, 1, 2, 3), Asm.r(0x33, 7, 0x20, 1, 2, 3), Asm.r(0x33, 0, 2, 1, 2, 3), Asm.r(0x33, 0, 0x40, 1, 2, 3),
            Asm.r(0x33, 0, 0x21, 1, 2, 3), Asm.r(0x3b, 2, 0, 1, 2, 3), Asm.r(0x3b, 3, 0, 1, 2, 3), Asm.r(0x3b, 4, 0, 1, 2, 3),
            Asm.r(0x3b, 6, 0, 1, 2, 3), Asm.r(0x3b, 7, 0, 1, 2, 3), Asm.r(0x3b, 1, 0x20, 1, 2, 3), Asm.r(0x3b, 1, 1, 1, 2, 3),
            Asm.r(0x3b, 2, 1, 1, 2, 3), Asm.r(0x3b, 3, 1, 1, 2, 3), Asm.r(0x3b, 0, 2, 1, 2, 3),
            Asm.branch(2, 0, 0, 8), Asm.branch(3, 0, 0, 8), Asm.i(0x67, 1, 1, 0, 0), Asm.i(0x67, 7, 1, 0, 2),
            0x000000f3, 0x00008073, 0x00200073, 0x10200073, 0x00200073, 0x30200173, 0x10508073, 0x001000f3, 0x12000073,
            Asm.csr(4, 1, Asm.MSCRATCH, 0), Asm.csr(4, 1, Asm.MSCRATCH, 1), 0x0000002f, 0x0000202f, 0x00000007, 0x00000053, 0x0000006b
        };
        for (int word : words) {
            String what = Integer.toHexString(word);
            EnclaveBoard board = fault(check, what, new Code().li(1, 5).add(word), 2, word & 0xffffffffL);
            check.due(what + " changes nothing", board.register(1), 5);
        }
    }

    private static void legal(Check check) {
        int[] words = {Asm.FENCE, Asm.FENCE_I, Asm.WFI, 0x0000000f, 0x8330000f, -1 << 20 | 0x0f | 31 << 7 | 31 << 15, -1 << 20 | 0x100f | 31 << 7 | 31 << 15};
        for (int word : words) {
            String what = Integer.toHexString(word);
            EnclaveBoard board = Bench.afterM(new Code().add(word));
            check.due(what + " in M goes", board.state(1), 0);
            check.due(what + " in M", board.held(0), 4);
            board = Bench.afterU(new Code().add(word));
            check.due(what + " in U goes", board.state(1), 0);
            check.due(what + " in U", board.held(0), Bench.HOST + 4);
            for (int k = 1; k < 32; k++) {
                check.due(what + " changes no register", board.register(k), k == 5 ? Bench.HOST : 0);
            }
        }
    }

    private static void loads(Check check) {
        long v = 0x8182838485868788L;
        long[] want = {(byte) 0x88, (short) 0x8788, 0x85868788, v, 0x88, 0x8788, 0x85868788L};
        for (int kind = 0; kind < 7; kind++) {
            int size = 1 << (kind & 3);
            EnclaveBoard board = Bench.inM(new Code().li(6, 1024 + 8).add(Asm.load(kind, 7, 6, -8)));
            board.poke(1024, v);
            board.run(2);
            check.due("load " + kind, board.register(7), want[kind]);
            for (int off = 1; off < size; off++) {
                board = fault(check, "load " + kind + " at " + off, new Code().li(7, 9).li(6, 1024).add(Asm.load(kind, 7, 6, off)), 4, 1024 + off);
                check.due("load " + kind + " writes nothing", board.register(7), 9);
            }
            fault(check, "load " + kind + " behind memory", new Code().li(6, 65536).add(Asm.load(kind, 7, 6, 0)), 5, 65536);
            fault(check, "load " + kind + " at -size", new Code().add(Asm.load(kind, 0, 0, -size)), 5, -size);
            if (size > 1) {
                fault(check, "load " + kind + " aligned first", new Code().li(6, 65536).add(Asm.load(kind, 7, 6, 1)), 4, 65537);
            }
            EnclaveBoard last = Bench.inM(new Code().li(6, 65536).add(Asm.load(kind, 7, 6, -size)));
            last.poke(65528, -1);
            last.run(3);
            check.due("load " + kind + " of the last bytes", last.register(7), kind < 4 ? -1 : (1L << 8 * size) - 1);
        }
        fault(check, "load far off", new Code().li(6, 1L << 32).add(Asm.ld(7, 6, 0)), 5, 1L << 32);
        fault(check, "load into x0", new Code().li(6, Long.MIN_VALUE).add(Asm.ld(0, 6, 0)), 5, Long.MIN_VALUE);
    }

    private static void stores(Check check) {
        for (int kind = 0; kind < 4; kind++) {
            int size = 1 << kind;
            long mask = size == 8 ? -1 : (1L << 8 * size) - 1;
            for (int at = 0; at < 8; at += size) {
                EnclaveBoard board = Bench.inM(new Code().li(6, 1024 + 40).add(Asm.ld(7, 6, 16), Asm.s(kind, 6, 7, at - 40)));
                board.poke(1024, 0x1111111111111111L);
                board.poke(1024 + 56, 0x8182838485868788L);
                board.run(3);
                long want = 0x1111111111111111L & ~(mask << 8 * at) | (0x8182838485868788L & mask) << 8 * at;
                check.due("store " + kind + " at " + at, board.peek(1024), want);
            }
            for (int off = 1; off < size; off++) {
                EnclaveBoard board = fault(check, "store " + kind + " at " + off, new Code().li(6, 1024).add(Asm.s(kind, 6, 6, off)), 6, 1024 + off);
                check.due("store " + kind + " changes nothing", board.peek(1024), 0);
            }
            fault(check, "store " + kind + " behind memory", new Code().li(6, 65536).add(Asm.s(kind, 6, 7, 0)), 7, 65536);
            fault(check, "store " + kind + " at -size", new Code().add(Asm.s(kind, 0, 0, -size)), 7, -size);
            if (size > 1) {
                fault(check, "store " + kind + " aligned first", new Code().li(6, 65536).add(Asm.s(kind, 6, 7, 1)), 6, 65537);
            }
        }
        fault(check, "EBREAK", new Code().add(Asm.NOP, Asm.EBREAK), 3, 4);
        fault(check, "ECALL", new Code().csrw(Asm.MTVAL, 3).add(Asm.ECALL), 11, 0);
        check.due("MPP stays in a FAULT", fault(check, "with MPP 3", new Code().csrw(Asm.MSTATUS, 3 << 11).add(0), 2, 0).held(2), 3 << 11);
    }

    private static void hostStops(Check check) {
        Object[][] rows = {
            {Asm.EBREAK, 3, (long) Bench.HOST}, {Asm.MRET, 2, (long) Asm.MRET}, {Asm.csrr(1, Asm.MSCRATCH), 2, (long) Asm.csrr(1, Asm.MSCRATCH)},
            {Asm.csrr(1, Asm.MINSTRET), 2, Asm.csrr(1, Asm.MINSTRET) & 0xffffffffL}, {0, 2, 0L}, {Asm.jal(1, 6), 0, Bench.HOST + 6L},
            {Asm.load(1, 1, 0, 1), 4, 1L}, {Asm.ld(1, 0, -8), 5, -8L}, {Asm.s(1, 0, 0, 1), 6, 1L}, {Asm.sd(0, 0, -8), 7, -8L}
        };
        for (Object[] row : rows) {
            int word = (Integer) row[0];
            String what = "host " + Integer.toHexString(word);
            EnclaveBoard board = Bench.afterU(new Code().add(word));
            check.due(what + ": STOPPED", board.state(1), 1);
            check.due(what + ": number", board.state(3), (Integer) row[1]);
            check.due(what + ": VALUE", board.held(1), (Long) row[2]);
            check.due(what + ": pc", board.held(0), Bench.HOST);
            check.due(what + ": mepc stays", board.held(4), Bench.HOST);
            check.due(what + ": mcause stays", board.held(5), 0);
            check.due(what + ": mtval stays", board.held(6), 0);
            check.due(what + ": mode", board.state(0), 0);
            check.due(what + ": x1", board.register(1), 0);
        }
    }
}
