/** The boundary cases that the document's section III (THE MONITOR) names beside CREATE, a method for each sentence. */
public final class MonitorBoundaryTest {
    private static final int BASE = Bench.BASE;
    private static final int NONE = EnclaveBoard.NONE;
    // Worked out apart from these tests: no image, size 32, entry 0, nothing shared.
    private static final long EMPTY_MEASURE = 0xacdd185f52fed6e5L;
    private static final long[] NO_PLACES = {1, 5, 6, 7, -1, Long.MIN_VALUE, Long.MAX_VALUE, 1L << 32, 1L << 63};

    public static void main(String[] args) {
        Check check = new Check("MonitorBoundaryTest");
        hostRuns(check.about("As soon as the mode is U the HOST runs"));
        hostMay(check.about("What the HOST may: what PMP, as it is as long as the host runs, lets mode U do"));
        hostStops(check.about("A FAULT of the host: it is STOPPED, with the number and VALUE, its pc that of the instruction"));
        ecallsOfHost(check.about("An ECALL in mode U (a STEP): the CALL that x17 tells, then the pc is 4 more .."));
        ecallsOfEnclave(check.about(".. (of an enclave too, ahead of all)"));
        enterNone(check.about("2 ENTER with x10 e, x11 n: -1 if e is not live"));
        enterFaulted(check.about("-5 if it is FAULTED"));
        enterNew(check.about("Else it runs: NEW, all its registers 0, from base + entry"));
        enterLeft(check.about("else all as it left"));
        limit(check.about("Behind n STEPS of the stay, if n is not 0 (without sign) ..: INTERRUPT"));
        lastEnds(check.about("and the last of them did not end it otherwise"));
        goesOn(check.about("The host goes on behind its ECALL with all its registers, but x10 the reason, x11 the value"));
        exitValue(check.about("of EXIT what it told, of INTERRUPT 0, of a FAULT its number"));
        faulted(check.about("A FAULT leaves it FAULTED"));
        destroyNone(check.about("3 DESTROY with x10 e: -1 if it is not live"));
        destroy(check.about("else 0: its memory is 0, then it is not live"));
        askNone(check.about("4 ASK with x10 e: -1 if it is not live"));
        ask(check.about("else x10 1 NEW, 2 LEFT, 3 FAULTED; and x11 its MEASURE"));
        others(check.about("Others: -1"));
        where(check.about("3 WHERE: x10 base, x11 size, x12 what it shares (0 if nothing), x13 its size"));
        othersOfEnclave(check.about("Others: x10 is -1"));
        measure(check.about("MEASURE: .. for each byte of the image, then 8 bytes each of size, entry, size shared, the lowest first"));
        key(check.about("KEY: k = secret ^ MEASURE"));
        waitsOnce(check.about("INTERRUPTS: one that is raised waits, once, to the next STEP"));
        endsStay(check.about("ahead of it, if an enclave runs, the stay ends by INTERRUPT (then the STEP is the host's)"));
        counted(check.about("if the host runs, or mode M, it goes, and is counted"));
        check.end();
    }

    private static Code exit() {
        return new Code().li(17, 1).add(Asm.ECALL);
    }

    private static void hostRuns(Check check) {
        EnclaveBoard board = Bench.inM(Bench.openFirmware());
        board.run(Bench.openFirmware().size() - 1);
        check.due("ahead of MRET", board.state(0), 3);
        board.run(1);
        check.due("behind MRET", board.state(0), 0);
        check.due("no enclave runs", board.state(2), NONE);
        check.due("its pc", board.held(0), Bench.HOST);
        check.due("its registers are mode M's", board.register(5), Bench.HOST);
    }

    private static void hostMay(Check check) {
        Code host = new Code().create(BASE, 32, 0, 0, 0, 0, 0);
        for (int config : new int[] {0, 0x18, 0x19, 0x1b, 0x1c, 0x98, 0x9b}) {
            Code firmware = new Code().csrw(Asm.PMPADDR0 + 8, Bench.HOST / 4 + 31).csrw(Asm.PMPADDR0 + 9, BASE / 4 + 31)
                    .csrw(Asm.PMPCFG2, 0x1c | config << 8).csrw(Asm.MEPC, Bench.HOST).add(Asm.MRET);
            EnclaveBoard board = Bench.inU(firmware, host, new Code());
            board.run(host.size());
            check.due("CREATE where PMP has " + config, board.register(10), (config & 3) == 3 ? 0 : -4);
        }
        Code live = Bench.made().li(6, BASE).add(Asm.load(4, 7, 6, 0));
        check.due("a live enclave's first byte", Bench.afterU(live).state(3), 5);
        Code last = Bench.made().li(6, BASE + 255).add(Asm.s(0, 6, 7, 0));
        check.due("a live enclave's last byte", Bench.afterU(last).state(3), 7);
        Code behind = Bench.made().li(6, BASE + 256).add(Asm.s(0, 6, 7, 0), Asm.load(4, 7, 6, -257), Asm.s(0, 0, 7, 0));
        check.due("beside a live enclave", Bench.afterU(behind).state(1), 0);
        Code shared = Bench.made().li(6, Bench.SHARED).add(Asm.ld(7, 6, 0), Asm.sd(7, 6, 56));
        check.due("what one shares", Bench.afterU(shared).state(1), 0);
    }

    private static void hostStops(Check check) {
        long[][] rows = {{0, 2, 0}, {Asm.EBREAK, 3, Bench.HOST + 4}, {Asm.jal(1, 2), 0, Bench.HOST + 6}, {Asm.ld(1, 0, -8), 5, -8}, {Asm.sd(1, 0, 4), 6, 4}};
        for (long[] row : rows) {
            EnclaveBoard board = Bench.inU(new Code().add(Asm.NOP, (int) row[0], Asm.NOP), new Code());
            String what = Long.toHexString(row[0]);
            check.due(what + ": run", board.run(5), 2);
            check.due(what + ": STOPPED", board.state(1), 1);
            check.due(what + ": mode", board.state(0), 0);
            check.due(what + ": number", board.state(3), row[1]);
            check.due(what + ": VALUE", board.held(1), row[2]);
            check.due(what + ": pc", board.held(0), Bench.HOST + 4);
            check.due(what + ": mepc is not changed", board.held(4), Bench.HOST);
            check.due(what + ": mcause is not changed", board.held(5), 0);
            check.due(what + ": mtval is not changed", board.held(6), 0);
            check.due(what + ": no more STEPS", board.run(5), 0);
        }
    }

    private static void ecallsOfHost(Check check) {
        for (long call : new long[] {0, 1, 2, 3, 4, 5}) {
            Code host = new Code().call(call, 9, 9);
            EnclaveBoard board = Bench.afterU(host);
            check.due("pc behind CALL " + call, board.held(0), Bench.HOST + host.bytes());
            check.due("STEPS behind CALL " + call, board.state(4), Bench.openFirmware().size() + host.size());
            check.due("the host goes on", board.state(1), 0);
        }
        Code firmware = new Code().csrw(Asm.PMPADDR0 + 8, -1).csrw(Asm.PMPCFG2, 0x1f).csrw(Asm.MEPC, 65532).add(Asm.MRET);
        EnclaveBoard board = Bench.inU(firmware, new Code(), new Code());
        board.poke(65528, (long) Asm.ECALL << 32);
        board.run(1);
        check.due("in the last word of memory", board.held(0), 65536);
        check.due("x10", board.register(10), -1);
        board.run(1);
        check.due("then a fetch where there is none", board.state(3), 1);
    }

    private static void ecallsOfEnclave(Check check) {
        for (long call : new long[] {0, 1, 2, 3, 4}) {
            Code image = new Code().li(17, call).add(Asm.ECALL);
            EnclaveBoard board = Bench.afterEnclave(image);
            check.due("pc behind CALL " + call, board.eye(0, 32), BASE + 8);
            check.due("STEPS behind CALL " + call, board.enclave(0, 7), 2);
            check.due("the one that runs behind CALL " + call, board.state(2), call == 1 ? NONE : 0);
        }
        Code again = Bench.made().enter(0, 0).enter(0, 0);
        EnclaveBoard board = Bench.inU(again, exit().add(Asm.addi(9, 0, 5), Asm.jal(0, 0)));
        board.run(again.size() + 3);
        check.due("goes on behind its EXIT", board.eye(0, 9), 5);
        Code last = new Code().create(BASE, 32, Bench.IMAGE, 32, 28, 0, 0).enter(0, 0).enter(0, 0);
        board = Bench.inU(last, new Code().add(0, 0, 0, 0, 0, 0, 0, Asm.ECALL));
        board.run(new Code().create(BASE, 32, Bench.IMAGE, 32, 28, 0, 0).enter(0, 0).size() + 2);
        check.due("behind an ECALL in its last word: a FAULT", board.register(10), 2);
        check.due("of a fetch", board.register(11), 1);
        check.due("its pc", board.eye(0, 32), BASE + 32);
    }

    /** The board behind a CALL, where an enclave 0 is live and no other. */
    private static EnclaveBoard afterCall(long call, long e) {
        return Bench.afterU(Bench.made().call(call, e, 77));
    }

    private static void enterNone(Check check) {
        for (long e : NO_PLACES) {
            EnclaveBoard board = afterCall(2, e);
            check.due("ENTER of " + e, board.register(10), -1);
            check.due("x11 behind ENTER of " + e, board.register(11), 77);
            check.due("stays begun behind ENTER of " + e, board.state(6), 0);
            check.due("none runs", board.state(2), NONE);
        }
        check.due("of one that was destroyed", Bench.afterU(Bench.made().call(3, 0).enter(0, 5)).register(10), -1);
        check.due("of none at all", Bench.afterU(new Code().enter(0, 5)).register(10), -1);
    }

    private static void enterFaulted(Check check) {
        Code host = Bench.made().enter(0, 0).enter(0, 77);
        EnclaveBoard board = Bench.inU(host, new Code().add(Asm.EBREAK));
        board.run(host.size() + 1);
        check.due("x10", board.register(10), -5);
        check.due("x11", board.register(11), 77);
        check.due("stays begun", board.state(6), 1);
        check.due("its stays", board.enclave(0, 6), 1);
        check.due("its STEPS", board.enclave(0, 7), 1);
        check.due("FAULTED", board.enclave(0, 0), 3);
        check.due("none runs", board.state(2), NONE);
        check.due("the host goes on", board.state(1), 0);
    }

    private static void enterNew(Check check) {
        for (int entry : new int[] {0, 4, 28}) {
            Code host = new Code().create(BASE, 32, Bench.IMAGE, 32, entry, 0, 0).enter(0, 0);
            EnclaveBoard board = Bench.inU(host, new Code());
            board.run(host.size());
            check.due("pc of entry " + entry, board.eye(0, 32), BASE + entry);
            for (int k = 0; k < 32; k++) {
                check.due("x" + k, board.eye(0, k), 0);
            }
            check.due("runs", board.enclave(0, 0), 4);
            check.due("no STEP of it yet", board.enclave(0, 7), 0);
            check.due("its stays", board.enclave(0, 6), 1);
        }
        Code first = new Code().create(BASE, 32, Bench.IMAGE, 4, 0, 0, 0).enter(0, 1).call(3, 0);
        Code again = new Code().create(BASE, 32, Bench.IMAGE, 4, 0, 0, 0).enter(0, 1).call(3, 0).create(BASE, 32, 0, 0, 8, 0, 0).enter(0, 0);
        EnclaveBoard board = Bench.inU(again, new Code().add(Asm.addi(9, 9, 5)));
        board.run(first.size() + 1);
        board.run(again.size() - first.size());
        check.due("x9 of one made where one was", board.eye(0, 9), 0);
        check.due("its pc", board.eye(0, 32), BASE + 8);
    }

    private static void enterLeft(Check check) {
        Code image = new Code();
        for (int k = 1; k < 32; k++) {
            image.add(Asm.addi(k, 0, k + 100));
        }
        Code host = Bench.made().enter(0, 31).enter(0, 0);
        EnclaveBoard board = Bench.inU(host, image);
        board.run(host.size() + 31);
        check.due("runs again", board.state(2), 0);
        for (int k = 1; k < 32; k++) {
            check.due("x" + k, board.eye(0, k), k + 100);
        }
        check.due("pc", board.eye(0, 32), BASE + image.bytes());
        check.due("stays", board.enclave(0, 6), 2);
    }

    private static void limit(Check check) {
        Code loop = new Code().add(Asm.NOP, Asm.jal(0, -4));
        for (int n : new int[] {1, 2, 3, 4999, 5000}) {
            EnclaveBoard board = Bench.entered(loop, n);
            if (n > 1) {
                board.run(n - 1);
                check.due("one STEP ahead of " + n, board.state(2), 0);
            }
            check.due("the STEP", board.run(1), 1);
            check.due("behind " + n, board.state(2), NONE);
            check.due("reason", board.register(10), 1);
            check.due("value", board.register(11), 0);
            check.due("its STEPS", board.enclave(0, 7), n);
            check.due("ended by INTERRUPT", board.state(7), 1);
        }
        for (long n : new long[] {0, -1, Long.MIN_VALUE, Long.MAX_VALUE, 1L << 32, 1L << 32 | 1, 5001}) {
            EnclaveBoard board = Bench.entered(loop, n);
            board.run(5000);
            check.due("runs on with " + n, board.state(2), 0);
        }
        Code host = Bench.made().enter(0, 3).enter(0, 3);
        EnclaveBoard board = Bench.inU(host, loop);
        board.run(host.size() + 5);
        check.due("of each stay for itself: runs", board.state(2), 0);
        board.run(1);
        check.due("of each stay for itself: left", board.state(2), NONE);
    }

    private static void lastEnds(Check check) {
        EnclaveBoard board = Bench.entered(exit(), 2);
        board.run(2);
        check.due("by EXIT", board.register(10), 0);
        check.due("no INTERRUPT", board.state(7), 0);
        check.due("LEFT", board.enclave(0, 0), 2);
        board = Bench.entered(new Code().add(Asm.NOP, 0), 2);
        board.run(2);
        check.due("by FAULT", board.register(10), 2);
        check.due("no INTERRUPT", board.state(7), 0);
        check.due("FAULTED", board.enclave(0, 0), 3);
        board = Bench.entered(exit(), 1);
        board.run(1);
        check.due("ahead of the EXIT: INTERRUPT", board.register(10), 1);
        board = Bench.entered(new Code().li(17, 2).add(Asm.ECALL), 2);
        board.run(2);
        check.due("a KEY does not end it: INTERRUPT", board.register(10), 1);
        check.due("the KEY is answered", board.eye(0, 10), board.eye(0, 34));
    }

    private static void goesOn(Check check) {
        for (int way = 0; way < 3; way++) {
            Code host = new Code();
            for (int k = 1; k < 32; k++) {
                host.li(k, 200 + k);
            }
            host.create(BASE, 256, Bench.IMAGE, 256, 0, 0, 0).enter(0, way == 1 ? 40 : 0).add(Asm.NOP);
            Code image = new Code();
            for (int k = 1; k < 32; k++) {
                image.add(Asm.addi(k, 0, k));
            }
            image.li(17, way == 0 ? 1 : 2).add(way == 2 ? 0 : Asm.ECALL, Asm.jal(0, 0));
            EnclaveBoard board = Bench.inU(host, image);
            board.run(host.size() - 1);
            long[] ahead = new long[32];
            for (int k = 0; k < 32; k++) {
                ahead[k] = board.register(k);
            }
            board.run(way == 1 ? 40 : 33);
            long value = way == 0 ? 10 : way == 1 ? 0 : 2;
            for (int k = 0; k < 32; k++) {
                check.due("x" + k + " behind " + way, board.register(k), k == 10 ? way : k == 11 ? value : ahead[k]);
            }
            check.due("pc behind " + way, board.held(0), Bench.HOST + host.bytes() - 4);
            check.due("none runs behind " + way, board.state(2), NONE);
            check.due("the host goes on", board.run(1), 1);
        }
    }

    private static void exitValue(Check check) {
        for (long v : new long[] {0, 1, -1, Long.MIN_VALUE, Long.MAX_VALUE, 1L << 32}) {
            EnclaveBoard board = Bench.afterEnclave(new Code().li(10, v).li(17, 1).add(Asm.ECALL));
            check.due("reason", board.register(10), 0);
            check.due("EXIT with " + v, board.register(11), v);
        }
        int[][] rows = {{Asm.jal(0, 2), 0}, {0, 2}, {Asm.EBREAK, 3}, {Asm.ld(1, 0, 1), 4}, {Asm.ld(1, 0, 0), 5}, {Asm.sd(1, 0, 1), 6}, {Asm.sd(1, 0, 0), 7}};
        for (int[] row : rows) {
            EnclaveBoard board = Bench.afterEnclave(new Code().add(row[0]));
            check.due("reason", board.register(10), 2);
            check.due("FAULT " + row[1], board.register(11), row[1]);
        }
        EnclaveBoard board = Bench.entered(new Code().li(10, 9).li(11, 9), 2);
        board.run(2);
        check.due("INTERRUPT", board.register(11), 0);
    }

    private static void faulted(Check check) {
        EnclaveBoard board = Bench.afterEnclave(new Code().li(9, 5).add(Asm.EBREAK));
        check.due("FAULTED", board.enclave(0, 0), 3);
        check.due("it is live", board.enclave(0, 2), 256);
        check.due("its registers", board.eye(0, 9), 5);
        check.due("its pc", board.eye(0, 32), BASE + 4);
        check.due("its memory is closed", board.poke(BASE, 1), false);
        check.due("the host goes on", board.state(1), 0);
        check.due("no number", board.state(3), NONE);
        check.due("no VALUE", board.held(1), 0);
        check.due("not by INTERRUPT", board.state(7), 0);
    }

    private static void destroyNone(Check check) {
        for (long e : NO_PLACES) {
            EnclaveBoard board = afterCall(3, e);
            check.due("DESTROY of " + e, board.register(10), -1);
            check.due("x11 behind DESTROY of " + e, board.register(11), 77);
            check.due("the one that is live lives", board.enclave(0, 0), 1);
        }
        check.due("twice", Bench.afterU(Bench.made().call(3, 0).call(3, 0)).register(10), -1);
        check.due("of none at all", Bench.afterU(new Code().call(3, 0)).register(10), -1);
    }

    private static void destroy(Check check) {
        destroyEach(check);
        Code[] images = {new Code().add(-1), new Code().add(Asm.NOP, Asm.NOP)};
        for (int base : new int[] {0, BASE, 65536 - 32}) {
            for (Code image : images) {
                Code host = new Code().create(base, 32, Bench.IMAGE, 32, 0, Bench.SHARED, 8).enter(0, 1).call(3, 0);
                EnclaveBoard board = Bench.inU(host, image);
                for (int off = -8; off <= 32; off += 8) {
                    board.poke(base + off, -1);
                }
                board.poke(Bench.SHARED, 7);
                board.run(host.size() + 1);
                check.due("x10", board.register(10), 0);
                check.due("not live", board.enclave(0, 0), 0);
                for (int off = 0; off < 32; off += 8) {
                    check.due("memory at " + (base + off), board.peek(base + off), 0);
                    check.due("poke at " + (base + off), board.poke(base + off, 3), true);
                }
                check.due("ahead of it", board.peek(base - 8), base == 0 ? 0 : -1);
                check.due("behind it", board.peek(base + 32), base == 65536 - 32 ? 0 : -1);
                check.due("what it shared", board.peek(Bench.SHARED), 7);
            }
        }
    }

    private static void destroyEach(Check check) {
        for (int e = 0; e < 6; e++) {
            Code host = new Code();
            for (int k = 0; k < 6; k++) {
                host.create(BASE + 32 * k, 32, 0, 0, 0, 0, 0);
            }
            EnclaveBoard board = Bench.afterU(host.call(3, e, 77));
            check.due("x10 of " + e, board.register(10), 0);
            check.due("x11 of " + e, board.register(11), 77);
            for (int k = 0; k < 6; k++) {
                check.due(k + " behind DESTROY of " + e, board.enclave(k, 0), k == e ? 0 : 1);
            }
        }
    }

    private static void askNone(Check check) {
        for (long e : NO_PLACES) {
            EnclaveBoard board = afterCall(4, e);
            check.due("ASK of " + e, board.register(10), -1);
            check.due("x11 behind ASK of " + e, board.register(11), 77);
        }
        check.due("of one that was destroyed", Bench.afterU(Bench.made().call(3, 0).call(4, 0)).register(10), -1);
    }

    private static void ask(Check check) {
        Code[] images = {new Code().add(Asm.NOP), exit(), new Code().add(0)};
        int[] steps = {0, 2, 1};
        for (int k = 0; k < 3; k++) {
            Code host = k == 0 ? Bench.made().call(4, 0, 77) : Bench.made().enter(0, 0).call(4, 0, 77);
            EnclaveBoard board = Bench.inU(host, images[k]);
            board.run(host.size() + steps[k]);
            check.due("x10", board.register(10), k + 1);
            check.due("x11", board.register(11), board.eye(0, 33));
            check.due("its state is not changed", board.enclave(0, 0), k + 1);
        }
    }

    private static void others(Check check) {
        for (long call : new long[] {0, 5, 6, -1, -2, Long.MIN_VALUE, 1L << 32, 1L << 32 | 1, 1L << 32 | 2, 1L << 32 | 3, 1L << 32 | 4}) {
            EnclaveBoard board = afterCall(call, 0);
            check.due("CALL " + call, board.register(10), -1);
            check.due("x11 behind CALL " + call, board.register(11), 77);
            check.due("x17 behind CALL " + call, board.register(17), call);
            check.due("the enclave behind CALL " + call, board.enclave(0, 0), 1);
            check.due("CREATES behind CALL " + call, board.state(5), 1);
            check.due("none runs", board.state(2), NONE);
        }
    }

    private static EnclaveBoard whereOf(long base, long size, long shared, long sharedSize) {
        Code host = new Code().create(base, size, Bench.IMAGE, 32, 0, shared, sharedSize).enter(0, 0);
        EnclaveBoard board = Bench.inU(host, new Code().li(12, 7).li(13, 7).li(17, 3).add(Asm.ECALL));
        board.run(host.size() + 4);
        return board;
    }

    private static void where(Check check) {
        long[][] rows = {{0, 32, 65528, 8}, {65504, 32, 0, 4096}, {49152, 16384, 45056, 4096}, {BASE, 32, 0, 0}, {BASE, 32, 12288, 0}, {BASE, 64, 0, 8}};
        for (long[] row : rows) {
            EnclaveBoard board = whereOf(row[0], row[1], row[2], row[3]);
            check.due("base", board.eye(0, 10), row[0]);
            check.due("size", board.eye(0, 11), row[1]);
            check.due("what it shares", board.eye(0, 12), row[3] == 0 ? 0 : row[2]);
            check.due("its size", board.eye(0, 13), row[3]);
            check.due("it runs on", board.state(2), 0);
        }
    }

    private static void othersOfEnclave(Check check) {
        for (long call : new long[] {0, 4, 5, -1, Long.MIN_VALUE, 1L << 32, 1L << 32 | 1, 1L << 32 | 2, 1L << 32 | 3}) {
            EnclaveBoard board = Bench.afterEnclave(new Code().li(10, 8).li(11, 9).li(17, call).add(Asm.ECALL));
            check.due("CALL " + call, board.eye(0, 10), -1);
            check.due("x11 behind CALL " + call, board.eye(0, 11), 9);
            check.due("it runs on behind CALL " + call, board.state(2), 0);
            check.due("the host's x10", board.register(10), 0);
        }
    }

    private static void measure(Check check) {
        long[][] rows = {{32, 0, 0, 0}, {32, 32, 28, 8}, {32, 31, 0, 8}, {16384, 1, 16380, 4096}, {256, 256, 252, 256}, {512, 0, 256, 1024}};
        for (long[] row : rows) {
            int size = (int) row[0];
            int length = (int) row[1];
            Code host = new Code().create(32768, size, Bench.IMAGE, length, row[2], 0, row[3]);
            EnclaveBoard board = Bench.inU(host, new Code());
            long it = 0xcbf29ce484222325L;
            for (int k = 0; k < length; k++) {
                int b = 255 - k & 0xff;
                it = (it ^ b) * 0x100000001b3L;
            }
            for (int at = 0; at < 256; at += 8) {
                long word = 0;
                for (int j = 7; j >= 0; j--) {
                    word = word << 8 | (255 - at - j & 0xff);
                }
                board.poke(Bench.IMAGE + at, word);
            }
            for (long number : new long[] {row[0], row[2], row[3]}) {
                for (int k = 0; k < 8; k++) {
                    it = (it ^ (number >> 8 * k & 0xff)) * 0x100000001b3L;
                }
            }
            board.run(host.size());
            check.due("of size " + size + ", length " + length, board.eye(0, 33), it);
        }
        check.due("of no image", Bench.afterU(new Code().create(BASE, 32, 0, 0, 0, 0, 0)).eye(0, 33), EMPTY_MEASURE);
    }

    private static void key(Check check) {
        Code host = new Code().create(BASE, 32, 0, 0, 0, 0, 0);
        for (long secret : new long[] {0, 1, -1, Long.MIN_VALUE, Long.MAX_VALUE, 1L << 32}) {
            EnclaveBoard board = Bench.inU(secret, Bench.openFirmware(), host, new Code());
            board.run(host.size());
            check.due("KEY by secret " + secret, board.eye(0, 34), EnclaveViewTest.key(secret, board.eye(0, 33)));
        }
        EnclaveBoard board = Bench.inU(EMPTY_MEASURE, Bench.openFirmware(), host, new Code());
        board.run(host.size());
        check.due("a secret that is the MEASURE", board.eye(0, 34), 0);
        Code image = new Code().li(10, 8).li(11, 9).li(17, 2).add(Asm.ECALL);
        board = Bench.afterEnclave(image);
        check.due("2 KEY: x10", board.eye(0, 10), board.eye(0, 34));
        check.due("2 KEY: x11", board.eye(0, 11), 9);
    }

    private static void waitsOnce(Check check) {
        EnclaveBoard board = Bench.inM(new Code().add(Asm.NOP, Asm.NOP, Asm.NOP, Asm.NOP));
        for (int k = 0; k < 3; k++) {
            board.interrupt();
        }
        check.due("waits", board.state(8), 0);
        board.run(5001);
        board.run(0);
        check.due("waits where no STEP is done", board.state(8), 0);
        board.run(2);
        check.due("once", board.state(8), 1);
        board.interrupt();
        board.run(1);
        check.due("raised anew", board.state(8), 2);
        board = Bench.inM(new Code().add(Asm.EBREAK));
        board.run(1);
        board.interrupt();
        board.run(1);
        check.due("waits where the board is DOWN", board.state(8), 0);
        board = Bench.inU(new Code().add(Asm.EBREAK), new Code());
        board.run(1);
        board.interrupt();
        board.run(1);
        check.due("waits where the host is STOPPED", board.state(8), 0);
        board = Bench.inM(new Code().add(Asm.EBREAK));
        board.interrupt();
        board.run(1);
        check.due("goes ahead of a STEP with a FAULT too", board.state(8), 1);
    }

    private static void endsStay(Check check) {
        EnclaveBoard board = Bench.entered(new Code().add(Asm.addi(9, 9, 1), Asm.jal(0, -4)), 0);
        board.interrupt();
        board.interrupt();
        check.due("runs still", board.state(2), 0);
        long pc = board.held(0);
        check.due("one STEP", board.run(1), 1);
        check.due("is the host's", board.held(0), pc + 4);
        check.due("none of the enclave", board.enclave(0, 7), 0);
        check.due("its x9", board.eye(0, 9), 0);
        check.due("LEFT", board.enclave(0, 0), 2);
        check.due("reason", board.register(10), 1);
        check.due("value", board.register(11), 0);
        check.due("ended by INTERRUPT", board.state(7), 1);
        check.due("not counted for the host", board.state(8), 0);
        board.run(1);
        check.due("once", board.state(8), 0);
        board = Bench.entered(exit(), 0);
        board.run(1);
        board.interrupt();
        board.run(1);
        check.due("ahead of its EXIT", board.register(10), 1);
        check.due("its EXIT is not done", board.eye(0, 32), BASE + 4);
        board = Bench.entered(new Code().add(0), 0);
        board.interrupt();
        board.run(1);
        check.due("ahead of its FAULT", board.enclave(0, 0), 2);
    }

    private static void counted(Check check) {
        EnclaveBoard board = Bench.inU(Bench.made().enter(0, 0), new Code().add(Asm.jal(0, 0)));
        board.run(Bench.made().enter(0, 0).size() - 1);
        board.interrupt();
        board.run(1);
        check.due("ahead of ENTER it is the host's", board.state(8), 1);
        check.due("the stay begins", board.state(2), 0);
        check.due("no stay ended", board.state(7), 0);
        board.run(10);
        check.due("it does not end the stay later", board.state(2), 0);
        board = Bench.inM(Bench.openFirmware());
        board.run(Bench.openFirmware().size() - 1);
        board.interrupt();
        board.run(1);
        check.due("ahead of MRET it is mode M's", board.state(8), 1);
        check.due("mode U behind it", board.state(0), 0);
        board = Bench.entered(new Code().add(Asm.NOP), 1);
        board.run(1);
        board.interrupt();
        board.run(1);
        check.due("behind the end of a stay it is the host's", board.state(8), 1);
        check.due("one stay ended", board.state(7), 1);
    }
}
