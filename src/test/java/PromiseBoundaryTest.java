/** The boundary cases that the promises 1 to 12 name, and the document's head, a method for each sentence. */
public final class PromiseBoundaryTest {
    private static final int BASE = Bench.BASE;
    private static final int NONE = EnclaveBoard.NONE;
    private static final int[] FAR = {Integer.MIN_VALUE, Integer.MIN_VALUE + 1, -65536, -100, -2, -1, 100, 65536, Integer.MAX_VALUE - 1, Integer.MAX_VALUE};
    private static final int[] NO_WORDS = {-8, -1, 1, 2, 4, 7, 9, 65521, 65529, 65532, 65535, 65536, 65544, 131072, 1 << 30, Integer.MIN_VALUE, Integer.MAX_VALUE, Integer.MAX_VALUE - 7};

    public static void main(String[] args) {
        Check check = new Check("PromiseBoundaryTest");
        lastCalls(check.about("An object is used for at most 512 calls after it has been made"));
        check.about("NONE = -1").due("NONE", EnclaveBoard.NONE, -1);
        newObject(check.about("All of memory and all registers 0, mode M, pc 0, no enclave"));
        secret(check.about("the secret for good"));
        resetPc(check.about("Mode M from a pc on"));
        resetAll(check.about("all registers, CSRs, PMP 0, .. no interrupt waits, STEPS and all counts 0"));
        resetMemory(check.about("no enclave is live (their memory is 0 first), .. other memory stays"));
        poke(check.about("Eight bytes, the lowest first, come into memory at a multiple of 8: true"));
        pokeNone(check.about("false, and nothing comes, where there is none, .."));
        pokeLive(check.about(".. or a live enclave has one of them"));
        peekNone(check.about("0 where there is none, or a live enclave has one of them"));
        interrupt(check.about("An interrupt is raised"));
        runLimits(check.about("At most so many STEPS (1 .. 5,000; NONE, doing nothing, for others)"));
        runFewer(check.about("fewer, if the board is DOWN or the host STOPPED (by the last of them; none then)"));
        register(check.about("Register k (0 .. 31) of the host .. 0 without it"));
        registerInStay(check.about("as it has them, also as long as an enclave runs"));
        state(check.about("state: NONE for others"));
        stateNone(check.about("2 the enclave that runs (NONE: none), 3 the number of the FAULT of STOPPED, DOWN (NONE otherwise)"));
        stateCounts(check.about("4 STEPS, 5 CREATES that succeeded, 6 stays begun, 7 those that ended by INTERRUPT, 8 interrupts that were counted for the host"));
        held(check.about("held: 0 for others"));
        heldPc(check.about("0 the pc of the host (of mode M; as long as an enclave runs the one behind its ECALL)"));
        heldValue(check.about("1 the VALUE of the FAULT of STOPPED, DOWN (0 otherwise)"));
        pmp(check.about("Of PMP entry i (0 .. 15) as it is now, what 0: its byte, 1: its address. 0 without it"));
        enclaveStates(check.about("what 0: 0 not live, 1 NEW, 2 LEFT, 3 FAULTED, 4 it runs"));
        enclaveFacts(check.about("if it is live, 1: base, 2: size, 3: entry, 4: what it shares (0 if nothing), 5: its size, .."));
        enclaveOthers(check.about("enclave: 0 otherwise"));
        eyeOfNone(check.about("of a live enclave .. 0 without such"));
        eyeRegisters(check.about("what 0 .. 31: its register (as it has it now), 32: its pc (of a NEW one base + entry)"));
        eyeMemory(check.about("35 and on: the eight bytes of its memory from 8 * (what - 35) on"));
        check.end();
    }

    private static void lastCalls(Check check) {
        EnclaveBoard board = new EnclaveBoard(0);
        board.poke(0, Asm.jal(0, 0));
        for (int call = 2; call <= 511; call++) {
            check.due("call " + call, board.run(5000), 5000);
        }
        check.due("call 512", board.state(4), 510 * 5000);
    }

    private static void newObject(Check check) {
        for (long secret : new long[] {0, -1, Long.MIN_VALUE}) {
            dueNew(check, new EnclaveBoard(secret), 0);
            EnclaveBoard board = new EnclaveBoard(secret);
            for (int at : new int[] {0, 8, 32768, 65520, 65528}) {
                check.due("peek(" + at + ")", board.peek(at), 0);
            }
        }
    }

    /** All that a new object and a reset have in common. */
    private static void dueNew(Check check, EnclaveBoard board, long pc) {
        int[] states = {3, 0, NONE, NONE, 0, 0, 0, 0, 0};
        for (int what = 0; what < states.length; what++) {
            check.due("state(" + what + ")", board.state(what), states[what]);
        }
        for (int what = 0; what < 7; what++) {
            check.due("held(" + what + ")", board.held(what), what == 0 ? pc : 0);
        }
        for (int k = 0; k < 32; k++) {
            check.due("register(" + k + ")", board.register(k), 0);
        }
        for (int i = 0; i < 16; i++) {
            check.due("pmp(" + i + ", 0)", board.pmp(i, 0), 0);
            check.due("pmp(" + i + ", 1)", board.pmp(i, 1), 0);
        }
        for (int e = 0; e < 6; e++) {
            for (int what = 0; what < 8; what++) {
                check.due("enclave(" + e + ", " + what + ")", board.enclave(e, what), 0);
            }
            for (int what : new int[] {0, 1, 31, 32, 33, 34, 35}) {
                check.due("eye(" + e + ", " + what + ")", board.eye(e, what), 0);
            }
        }
    }

    private static void secret(Check check) {
        Code host = new Code().create(BASE, 32, 0, 0, 0, 0, 0);
        EnclaveBoard board = Bench.inU(Long.MIN_VALUE, Bench.openFirmware(), host, new Code());
        board.run(host.size());
        long key = board.eye(0, 34);
        for (int k = 0; k < 3; k++) {
            board.reset(0);
            board.run(Bench.openFirmware().size() + host.size());
            check.due("KEY behind reset " + k, board.eye(0, 34), key);
        }
    }

    private static void resetPc(Check check) {
        for (long pc : new long[] {0, 4, 65532, 65536, -4, Long.MIN_VALUE, 1L << 32, 1, 2, 3, -1}) {
            EnclaveBoard board = Bench.entered(new Code().add(Asm.NOP), 0);
            board.reset(pc);
            check.due("pc", board.held(0), pc);
            check.due("mode", board.state(0), 3);
            check.due("goes", board.state(1), 0);
            boolean noMemory = pc < 0 || pc > 65535;
            board.poke((int) pc & -8, 0);
            check.due("the first STEP", board.run(2) > 0, true);
            if (pc != 0 && pc != 4) {
                check.due("number at " + pc, board.state(3), (pc & 3) != 0 ? 0 : noMemory ? 1 : 2);
            }
        }
    }

    private static void resetAll(Check check) {
        Code firmware = new Code().csrw(Asm.MSCRATCH, -1).csrw(Asm.MCAUSE, -1).csrw(Asm.MTVAL, -1).csrw(Asm.PMPADDR0 + 15, -1)
                .csrw(Asm.PMPCFG2, 0x9f00000000000000L).csrw(Asm.MEPC, Bench.HOST).add(Asm.MRET);
        Code host = Bench.made().enter(0, 1).enter(0, 0);
        EnclaveBoard board = Bench.inU(firmware, host, new Code().add(Asm.NOP, Asm.jal(0, 0)));
        board.interrupt();
        board.run(host.size() + 3);
        check.due("an enclave runs", board.state(2), 0);
        check.due("all counts", board.state(5) * board.state(6) * board.state(7) * board.state(8), 2);
        board.interrupt();
        board.reset(-8);
        dueNew(check, board, -8);
        board.reset(0);
        board.run(1);
        check.due("no interrupt waits", board.state(8), 0);
        EnclaveBoard down = Bench.afterM(new Code().csrw(Asm.MSTATUS, -1).add(Asm.EBREAK));
        down.reset(8);
        dueNew(check, down, 8);
        EnclaveBoard stopped = Bench.afterU(new Code().add(Asm.EBREAK));
        stopped.reset(8);
        dueNew(check, stopped, 8);
    }

    private static void resetMemory(Check check) {
        Code host = new Code();
        for (int e = 0; e < 6; e++) {
            host.create(e == 5 ? 65504 : BASE + 64 * e, 32, Bench.IMAGE, 32, 0, Bench.SHARED, 64);
        }
        host.call(3, 1).enter(2, 1).enter(3, 0);
        EnclaveBoard board = Bench.inU(host, new Code().add(Asm.NOP, 0, -1, -1, -1, -1, -1, -1));
        for (int e = 0; e < 6; e++) {
            board.poke(BASE + 64 * e + 32, 40 + e);
        }
        board.poke(Bench.SHARED, 9);
        board.poke(65496, 8);
        board.run(host.size() + 3);
        board.reset(0);
        for (int e = 0; e < 6; e++) {
            for (int off = 0; off < 32; off += 8) {
                int at = (e == 5 ? 65504 : BASE + 64 * e) + off;
                check.due("peek(" + at + ")", board.peek(at), 0);
            }
            check.due("beside " + e, board.peek(BASE + 64 * e + 32), 40 + e);
        }
        check.due("shared", board.peek(Bench.SHARED), 9);
        check.due("ahead of the last", board.peek(65496), 8);
        check.due("the image", board.peek(Bench.IMAGE + 24), -1);
    }

    private static void poke(Check check) {
        EnclaveBoard board = Bench.inM(new Code().li(6, 1024).add(Asm.load(4, 7, 6, 0), Asm.load(4, 8, 6, 7)));
        check.due("poke(1024)", board.poke(1024, 0x0807060504030201L), true);
        board.run(3);
        check.due("the first byte", board.register(7), 1);
        check.due("the last byte", board.register(8), 8);
        for (int at : new int[] {0, 8, 65520, 65528}) {
            for (long v : new long[] {0, -1, Long.MIN_VALUE, Long.MAX_VALUE}) {
                check.due("poke(" + at + ", " + v + ")", board.poke(at, v), true);
                check.due("peek(" + at + ")", board.peek(at), v);
            }
        }
    }

    private static void pokeNone(Check check) {
        EnclaveBoard board = new EnclaveBoard(0);
        for (int at : NO_WORDS) {
            check.due("poke(" + at + ")", board.poke(at, -1), false);
        }
        for (int at : new int[] {0, 8, 16, 65512, 65520, 65528}) {
            check.due("nothing came to " + at, board.peek(at), 0);
        }
    }

    /** A board with an enclave of 32 bytes at BASE that has made its way to a state: 1 NEW, 2 LEFT, 3 FAULTED, 4 runs. */
    private static EnclaveBoard inState(int status) {
        Code host = new Code().create(BASE, 32, Bench.IMAGE, 32, 4, Bench.SHARED, 8);
        int image = status == 3 ? 0 : Asm.addi(9, 9, 5);
        if (status > 1) {
            host.enter(0, status == 2 ? 1 : 0);
        }
        EnclaveBoard board = Bench.inU(host, new Code().add(0x11111111, image, Asm.jal(0, 0), 0, 0, 0, 0x22222222, 0x33333333));
        for (int at = BASE - 8; at <= BASE + 32; at += 8) {
            board.poke(at, 7);
        }
        board.run(host.size() + (status > 1 ? 1 : 0));
        return board;
    }

    private static void pokeLive(Check check) {
        for (int status = 1; status <= 4; status++) {
            EnclaveBoard board = inState(status);
            for (int off = -8; off <= 32; off += 8) {
                boolean live = off >= 0 && off < 32;
                long ahead = live ? board.eye(0, 35 + off / 8) : 0;
                check.due("poke at " + off + " in " + status, board.poke(BASE + off, 5), !live);
                if (live) {
                    check.due("nothing comes", board.eye(0, 35 + off / 8), ahead);
                }
            }
            check.due("what it shares in " + status, board.poke(Bench.SHARED, 5), true);
            board.reset(0);
            check.due("behind reset", board.poke(BASE, 5), true);
        }
    }

    private static void peekNone(Check check) {
        EnclaveBoard board = new EnclaveBoard(0);
        for (int at : new int[] {0, 8, 65520, 65528}) {
            board.poke(at, -1);
        }
        for (int at : NO_WORDS) {
            check.due("peek(" + at + ")", board.peek(at), 0);
        }
        for (int status = 1; status <= 4; status++) {
            board = inState(status);
            for (int off = -8; off <= 32; off += 8) {
                boolean live = off >= 0 && off < 32;
                check.due("peek at " + off + " in " + status, board.peek(BASE + off), live ? 0 : 7);
            }
        }
    }

    private static void interrupt(Check check) {
        EnclaveBoard board = new EnclaveBoard(0);
        board.interrupt();
        dueNew(check, board, 0);
        board.run(1);
        check.due("counted ahead of the first STEP", board.state(8), 1);
    }

    private static void runLimits(Check check) {
        EnclaveBoard board = Bench.inM(new Code().add(Asm.jal(0, 0)));
        board.interrupt();
        for (int steps : new int[] {0, -1, -5000, 5001, 5002, 10000, Integer.MIN_VALUE, Integer.MAX_VALUE}) {
            check.due("run(" + steps + ")", board.run(steps), NONE);
            check.due("no STEP", board.state(4), 0);
            check.due("the interrupt waits", board.state(8), 0);
        }
        int all = 0;
        for (int steps : new int[] {1, 2, 4999, 5000}) {
            check.due("run(" + steps + ")", board.run(steps), steps);
            all += steps;
            check.due("STEPS", board.state(4), all);
        }
    }

    private static void runFewer(Check check) {
        for (int mode = 0; mode < 2; mode++) {
            for (int steps : new int[] {2, 3, 4, 5000}) {
                Code code = new Code().add(Asm.NOP, Asm.NOP, Asm.EBREAK, Asm.NOP);
                EnclaveBoard board = mode == 0 ? Bench.inM(code) : Bench.inU(code, new Code());
                int ahead = board.state(4);
                check.due("run(" + steps + ")", board.run(steps), Math.min(steps, 3));
                check.due("goes or not", board.state(1), steps < 3 ? 0 : 2 - mode);
                check.due("then", board.run(1), steps < 3 ? 1 : 0);
                check.due("then", board.run(5000), 0);
                check.due("NONE for others all the same", board.run(0), NONE);
                check.due("NONE for others all the same", board.run(5001), NONE);
                check.due("STEPS", board.state(4), ahead + 3);
            }
        }
        EnclaveBoard board = Bench.entered(new Code().add(Asm.EBREAK), 0);
        check.due("a FAULT of an enclave ends no run", board.run(2), 2);
    }

    private static void register(Check check) {
        Code code = new Code();
        for (int k = 0; k < 32; k++) {
            code.add(Asm.addi(k, 0, k + 1));
        }
        EnclaveBoard board = Bench.afterM(code);
        for (int k = 0; k < 32; k++) {
            check.due("register(" + k + ")", board.register(k), k == 0 ? 0 : k + 1);
        }
        for (int k : FAR) {
            check.due("register(" + k + ")", board.register(k), 0);
        }
        check.due("register(32)", board.register(32), 0);
        check.due("register(33)", board.register(33), 0);
    }

    private static void registerInStay(Check check) {
        EnclaveBoard board = Bench.entered(new Code().li(10, 9).li(17, 9).li(5, 9), 3);
        board.run(2);
        check.due("x10", board.register(10), 0);
        check.due("x11", board.register(11), 3);
        check.due("x17", board.register(17), 2);
        check.due("x5", board.register(5), Bench.HOST);
        board.run(1);
        check.due("x10 behind the stay", board.register(10), 1);
    }

    private static void state(Check check) {
        EnclaveBoard board = Bench.entered(new Code().add(Asm.NOP), 0);
        for (int what : FAR) {
            check.due("state(" + what + ")", board.state(what), NONE);
        }
        check.due("state(9)", board.state(9), NONE);
        check.due("state(10)", board.state(10), NONE);
    }

    private static void stateNone(Check check) {
        for (int status = 1; status <= 4; status++) {
            EnclaveBoard board = inState(status);
            check.due("the enclave that runs in " + status, board.state(2), status == 4 ? 0 : NONE);
            check.due("no number in " + status, board.state(3), NONE);
            check.due("it goes in " + status, board.state(1), 0);
        }
        check.due("STOPPED by number 0", Bench.afterU(new Code().add(Asm.jal(0, 2))).state(3), 0);
        check.due("DOWN by number 0", Bench.afterM(new Code().add(Asm.jal(0, 2))).state(3), 0);
        check.due("DOWN by an ECALL", Bench.afterM(new Code().add(Asm.ECALL)).state(3), 11);
        Code host = new Code();
        for (int e = 0; e < 6; e++) {
            host.create(BASE + 32 * e, 32, 0, 0, 0, 0, 0);
        }
        EnclaveBoard board = Bench.afterU(host.enter(5, 0));
        check.due("the last of six", board.state(2), 5);
    }

    private static void stateCounts(Check check) {
        Code host = Bench.made().create(BASE, 32, 0, 0, 0, 0, 0).enter(1, 0).enter(0, 1).enter(0, 0).call(3, 0).create(BASE, 32, 0, 0, 0, 0, 0);
        EnclaveBoard board = Bench.inU(host, new Code().add(Asm.NOP).li(17, 1).add(Asm.ECALL));
        board.run(host.size() + 3);
        check.due("STEPS", board.state(4), Bench.openFirmware().size() + host.size() + 3);
        check.due("CREATES that succeeded", board.state(5), 2);
        check.due("stays begun", board.state(6), 2);
        check.due("ended by INTERRUPT", board.state(7), 1);
        check.due("counted for the host", board.state(8), 0);
        check.due("stays of the one made anew", board.enclave(0, 6), 0);
        check.due("STEPS of the one made anew", board.enclave(0, 7), 0);
    }

    private static void held(Check check) {
        Code code = new Code().csrw(Asm.MSTATUS, -1).csrw(Asm.MSCRATCH, 3).csrw(Asm.MEPC, 4).csrw(Asm.MCAUSE, 5).csrw(Asm.MTVAL, 6);
        EnclaveBoard board = Bench.afterM(code);
        long[] want = {code.bytes(), 0, 0x1800, 3, 4, 5, 6, 0, 0};
        for (int what = 0; what < want.length; what++) {
            check.due("held(" + what + ")", board.held(what), want[what]);
        }
        for (int what : FAR) {
            check.due("held(" + what + ")", board.held(what), 0);
        }
    }

    private static void heldPc(Check check) {
        Code host = Bench.made().enter(0, 2);
        EnclaveBoard board = Bench.entered(new Code().add(Asm.NOP, Asm.NOP), 2);
        for (int k = 0; k < 3; k++) {
            check.due("behind its ECALL, " + k, board.held(0), Bench.HOST + host.bytes());
            if (k < 2) {
                board.run(1);
            }
        }
        check.due("the stay has ended", board.state(2), NONE);
        check.due("mode M", Bench.afterM(new Code().add(Asm.NOP)).held(0), 4);
    }

    private static void heldValue(Check check) {
        check.due("it goes", Bench.afterM(new Code().add(Asm.NOP)).held(1), 0);
        check.due("DOWN", Bench.afterM(new Code().add(-1)).held(1), 0xffffffffL);
        check.due("STOPPED", Bench.afterU(new Code().add(-1)).held(1), 0xffffffffL);
        check.due("DOWN by an ECALL", Bench.afterM(new Code().add(Asm.ECALL)).held(1), 0);
        check.due("an enclave is FAULTED", Bench.afterEnclave(new Code().add(-1)).held(1), 0);
        check.due("an ECALL of the host", Bench.afterU(new Code().add(Asm.ECALL)).held(1), 0);
    }

    private static void pmp(Check check) {
        EnclaveBoard board = Bench.afterM(new Code().csrw(Asm.PMPADDR0 + 15, 77).csrw(Asm.PMPADDR0 + 8, 66).csrw(Asm.PMPCFG2, 0x9f00000000000011L));
        check.due("pmp(15, 0)", board.pmp(15, 0), 0x9f);
        check.due("pmp(15, 1)", board.pmp(15, 1), 77);
        check.due("pmp(8, 0)", board.pmp(8, 0), 0x11);
        check.due("pmp(8, 1)", board.pmp(8, 1), 66);
        for (int far : FAR) {
            check.due("pmp(" + far + ", 0)", board.pmp(far, 0), 0);
            check.due("pmp(" + far + ", 1)", board.pmp(far, 1), 0);
            check.due("pmp(8, " + far + ")", board.pmp(8, far), 0);
        }
        check.due("pmp(16, 0)", board.pmp(16, 0), 0);
        check.due("pmp(16, 1)", board.pmp(16, 1), 0);
        check.due("pmp(8, 2)", board.pmp(8, 2), 0);
    }

    private static void enclaveStates(Check check) {
        for (int status = 1; status <= 4; status++) {
            check.due("state " + status, inState(status).enclave(0, 0), status);
        }
        check.due("not live", new EnclaveBoard(0).enclave(0, 0), 0);
        check.due("not live any more", Bench.afterU(Bench.made().call(3, 0)).enclave(0, 0), 0);
    }

    private static void enclaveFacts(Check check) {
        long[][] rows = {{0, 32, 28, 65528, 8}, {65504, 32, 0, 0, 4096}, {49152, 16384, 16380, 45056, 4096}, {BASE, 64, 60, 7, 0}};
        for (long[] row : rows) {
            EnclaveBoard board = Bench.afterU(new Code().create(row[0], row[1], 0, 0, row[2], row[3], row[4]));
            for (int what = 1; what <= 5; what++) {
                long want = what == 4 && row[4] == 0 ? 0 : row[what - 1];
                check.due("enclave(0, " + what + ")", board.enclave(0, what), want);
            }
        }
        EnclaveBoard board = inState(4);
        check.due("6: stays begun, the one that lasts too", board.enclave(0, 6), 1);
        check.due("7: STEPS, of the one that lasts too", board.enclave(0, 7), 1);
        check.due("7: the STEP of a FAULT too", inState(3).enclave(0, 7), 1);
    }

    private static void enclaveOthers(Check check) {
        EnclaveBoard board = inState(4);
        for (int far : FAR) {
            check.due("enclave(0, " + far + ")", board.enclave(0, far), 0);
            check.due("enclave(" + far + ", 2)", board.enclave(far, 2), 0);
        }
        check.due("enclave(0, 8)", board.enclave(0, 8), 0);
        for (int what = 0; what < 8; what++) {
            check.due("enclave(1, " + what + ")", board.enclave(1, what), 0);
            check.due("enclave(6, " + what + ")", board.enclave(6, what), 0);
        }
        board = Bench.afterU(Bench.made().call(3, 0));
        for (int what = 0; what < 8; what++) {
            check.due("not live any more: " + what, board.enclave(0, what), 0);
        }
    }

    private static void eyeOfNone(Check check) {
        EnclaveBoard board = inState(2);
        int[] whats = {0, 9, 31, 32, 33, 34, 35, 36, 38, 39};
        for (int what : whats) {
            for (int e : new int[] {-1, 1, 5, 6, 7, Integer.MIN_VALUE, Integer.MAX_VALUE}) {
                check.due("eye(" + e + ", " + what + ")", board.eye(e, what), 0);
            }
        }
        Code image = new Code();
        for (int k = 1; k < 32; k++) {
            image.add(Asm.addi(k, 0, k));
        }
        board = Bench.afterEnclave(image);
        check.due("no register is 0 but x0", board.eye(0, 31), 31);
        for (int what = -40; what < 0; what++) {
            check.due("eye(0, " + what + ")", board.eye(0, what), 0);
        }
        check.due("eye(0, MIN_VALUE + 31)", board.eye(0, Integer.MIN_VALUE + 31), 0);
        board = Bench.afterU(Bench.made().call(3, 0));
        for (int what : whats) {
            check.due("not live any more: " + what, board.eye(0, what), 0);
        }
    }

    private static void eyeRegisters(Check check) {
        for (int status = 1; status <= 4; status++) {
            EnclaveBoard board = inState(status);
            boolean hasRun = status == 2 || status == 4;
            for (int k = 0; k < 32; k++) {
                check.due("x" + k + " in " + status, board.eye(0, k), k == 9 && hasRun ? 5 : 0);
            }
            check.due("pc in " + status, board.eye(0, 32), BASE + (hasRun ? 8 : 4));
        }
    }

    private static void eyeMemory(Check check) {
        for (int status = 1; status <= 4; status++) {
            EnclaveBoard board = inState(status);
            check.due("the first in " + status, board.eye(0, 35) & 0xffffffffL, 0x11111111L);
            check.due("the last in " + status, board.eye(0, 38), 0x3333333322222222L);
            for (int what : new int[] {39, 40, 100, 35 + 8192, Integer.MAX_VALUE}) {
                check.due("eye(0, " + what + ") in " + status, board.eye(0, what), 0);
            }
        }
        Code host = new Code().create(49152, 16384, Bench.IMAGE, 4, 0, 0, 0).enter(0, 0);
        EnclaveBoard board = Bench.inU(host, new Code().add(Asm.lui(6, 16), Asm.addi(7, 0, -1), Asm.sd(7, 6, -8)));
        board.run(host.size());
        check.due("the first word of the largest", board.eye(0, 35), Asm.lui(6, 16));
        check.due("behind the last word of the largest", board.eye(0, 35 + 2048), 0);
        lastWord(check);
    }

    private static void lastWord(Check check) {
        Code host = new Code().create(49152, 16384, Bench.IMAGE, 12, 0, 0, 0).enter(0, 0);
        EnclaveBoard board = Bench.inU(host, new Code().add(Asm.lui(6, 16), Asm.addi(7, 0, -1), Asm.sd(7, 6, -8)));
        board.run(host.size() + 3);
        check.due("the last word of the largest, as it is now", board.eye(0, 35 + 2047), -1);
        check.due("the one ahead of it", board.eye(0, 35 + 2046), 0);
    }
}
