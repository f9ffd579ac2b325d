/** CREATE, DESTROY and ASK: what is refused, in which order, and what is made. */
public final class CreateTest {
    private static final int BASE = 16384;
    private static final int SHARED = 12288;
    private static final int IMAGE = Bench.IMAGE;

    public static void main(String[] args) {
        Check check = new Check("CreateTest");
        toldWrongly(check);
        toldRightly(check);
        meets(check);
        hostMayNot(check);
        tooMany(check);
        order(check);
        images(check);
        destroyAndAsk(check);
        atTheEdges(check);
        otherCalls(check);
        check.end();
    }

    private static long answer(long base, long size, long image, long length, long entry, long shared, long sharedSize) {
        return Bench.afterU(new Code().create(base, size, image, length, entry, shared, sharedSize)).register(10);
    }

    private static void toldWrongly(Check check) {
        for (long size : new long[] {0, 1, 8, 16, 31, 33, 48, 96, 16416, 32768, 65536, -32, Long.MIN_VALUE, 1L << 32}) {
            check.due("size " + size, answer(0, size, IMAGE, 0, 0, 0, 0), -1);
        }
        for (long base : new long[] {16, 32, 8, -64, 65536, 65536 + 64, 1L << 32, Long.MIN_VALUE}) {
            check.due("base " + base, answer(base, 64, IMAGE, 0, 0, 0, 0), -1);
        }
        for (long length : new long[] {65, -1, Long.MIN_VALUE, 1L << 32}) {
            check.due("length " + length, answer(BASE, 64, IMAGE, length, 0, 0, 0), -1);
        }
        for (long image : new long[] {65536 - 63, 65536, -1, -64, -32, Long.MIN_VALUE, Long.MAX_VALUE, 1L << 32}) {
            check.due("image " + image, answer(BASE, 64, image, 64, 0, 0, 0), -1);
        }
        for (long entry : new long[] {1, 2, 3, 62, 64, 68, -4, Long.MIN_VALUE, 1L << 32}) {
            check.due("entry " + entry, answer(BASE, 64, IMAGE, 8, entry, 0, 0), -1);
        }
        for (long size : new long[] {1, 2, 4, 7, 9, 12, 24, 4104, 8192, -8, Long.MIN_VALUE, 1L << 32}) {
            check.due("size shared " + size, answer(BASE, 64, IMAGE, 8, 0, 0, size), -1);
        }
        for (long shared : new long[] {4, 8, 24, 65536, -16, Long.MIN_VALUE, 1L << 32, BASE, BASE + 16, BASE + 48}) {
            check.due("shared " + shared, answer(BASE, 64, IMAGE, 8, 0, shared, 16), -1);
        }
        check.due("the enclave in what is shared", answer(BASE, 64, IMAGE, 8, 0, BASE, 4096), -1);
    }

    private static void toldRightly(Check check) {
        for (long size = 32; size <= 16384; size *= 2) {
            check.due("size " + size, answer(BASE, size, IMAGE, 4, size - 4, 0, 0), 0);
            check.due("the last base of " + size, answer(65536 - size, size, IMAGE, size, 0, 0, 0), 0);
        }
        for (long size = 8; size <= 4096; size *= 2) {
            check.due("size shared " + size, answer(BASE, 64, IMAGE, 4, 0, 65536 - size, size), 0);
            check.due("shared 0 " + size, answer(BASE, 64, IMAGE, 4, 0, 0, size), 0);
        }
        check.due("base 0", answer(0, 32, IMAGE, 4, 0, 0, 0), 0);
        check.due("the first image", answer(BASE, 64, 0, 33, 0, 0, 0), 0);
        check.due("the last image", answer(BASE, 64, 65536 - 33, 33, 0, 0, 0), 0);
        for (long image : new long[] {-1, 65536, Long.MIN_VALUE}) {
            check.due("no image at " + image, answer(BASE, 64, image, 0, 0, 0, 0), 0);
        }
        for (long shared : new long[] {3, -1, BASE, Long.MIN_VALUE}) {
            check.due("nothing shared at " + shared, answer(BASE, 64, IMAGE, 4, 0, shared, 0), 0);
        }
        check.due("shared behind it", answer(BASE, 64, IMAGE, 4, 0, BASE + 64, 8), 0);
        check.due("shared ahead of it", answer(BASE, 64, IMAGE, 4, 0, BASE - 8, 8), 0);
    }

    private static long second(long base, long size, long shared, long sharedSize) {
        Code host = new Code().create(BASE, 64, IMAGE, 8, 0, SHARED, 64).create(base, size, IMAGE, 8, 0, shared, sharedSize);
        return Bench.afterU(host).register(10);
    }

    private static void meets(Check check) {
        check.due("the same", second(BASE, 64, 0, 0), -2);
        check.due("a part", second(BASE + 32, 32, 0, 0), -2);
        check.due("all around", second(BASE, 128, 0, 0), -2);
        check.due("behind", second(BASE + 64, 64, 0, 0), 1);
        check.due("ahead", second(BASE - 64, 64, 0, 0), 1);
        check.due("memory where one shares", second(SHARED, 32, 0, 0), -2);
        check.due("memory around what one shares", second(SHARED, 128, 0, 0), -2);
        check.due("memory behind what one shares", second(SHARED + 64, 64, 0, 0), 1);
        check.due("shares the memory of one", second(BASE + 64, 32, BASE + 8, 8), -2);
        check.due("shares what one shares", second(BASE + 64, 32, SHARED, 64), 1);
        check.due("shares a part of it", second(BASE + 64, 32, SHARED + 56, 8), 1);
        Code nothing = new Code().create(BASE, 64, IMAGE, 8, 0, SHARED, 0).create(SHARED, 32, IMAGE, 8, 0, 0, 0);
        check.due("one shares nothing", Bench.afterU(nothing).register(10), 1);
        Code zero = new Code().create(BASE, 64, IMAGE, 8, 0, 0, 0).create(0, 32, IMAGE, 8, 0, 0, 0);
        check.due("one shares nothing, at 0", Bench.afterU(zero).register(10), 1);
    }

    /** The host runs at its place by entry 15; the entries 8 and 9 tell what else it may. */
    private static long guarded(int first, long firstAddress, int rest, Code host) {
        Code firmware = new Code().csrw(Asm.PMPADDR0 + 8, firstAddress).csrw(Asm.PMPADDR0 + 9, Bench.HOST / 4 + 255)
                .csrw(Asm.PMPADDR0 + 10, -1).csrw(Asm.PMPCFG2, first | 0x1f00L | (long) rest << 16).csrw(Asm.MEPC, Bench.HOST).add(Asm.MRET);
        EnclaveBoard board = Bench.inU(firmware, host, new Code());
        board.run(host.size());
        check(board);
        return board.register(10);
    }

    private static void check(EnclaveBoard board) {
        if (board.state(1) != 0) {
            throw new IllegalStateException("the host is stopped");
        }
    }

    private static void hostMayNot(Check check) {
        Code host = new Code().create(BASE, 64, IMAGE, 16, 0, SHARED, 16);
        check.due("all is let", guarded(0, 0, 0x1b, host), 0);
        check.due("X is not asked for", guarded(0, 0, 0x1f, host), 0);
        check.due("read alone", guarded(0, 0, 0x19, host), -4);
        check.due("nothing", guarded(0, 0, 0, host), -4);
        check.due("none decides", guarded(0, 0, 0x18, host), -4);
        for (int at = -4; at <= 64; at += 4) {
            boolean inside = at >= 0 && at < 64;
            check.due("four bytes of its memory at " + at, guarded(0x11, (BASE + at) / 4, 0x1b, host), inside ? -4 : 0);
        }
        for (int at = -4; at <= 16; at += 4) {
            boolean inside = at >= 0 && at < 16;
            check.due("four bytes shared at " + at, guarded(0x11, (SHARED + at) / 4, 0x1b, host), inside ? -4 : 0);
            check.due("four bytes of the image at " + at, guarded(0x10, (IMAGE + at) / 4, 0x1b, host), inside ? -4 : 0);
            check.due("the image need not be written at " + at, guarded(0x11, (IMAGE + at) / 4, 0x1b, host), 0);
        }
        check.due("no partial access: each for itself", guarded(0x13, (BASE + 4) / 4, 0x1b, host), 0);
        Code odd = new Code().create(BASE, 64, IMAGE + 3, 2, 0, 0, 0);
        check.due("image in two pieces, the second closed", guarded(0x10, (IMAGE + 4) / 4, 0x1b, odd), -4);
        Code first = new Code().create(BASE, 64, IMAGE + 3, 1, 0, 0, 0);
        check.due("image in the first piece", guarded(0x10, (IMAGE + 4) / 4, 0x1b, first), 0);
        Code none = new Code().create(BASE, 64, IMAGE, 0, 0, 0, 0);
        check.due("no image to read", guarded(0x10, IMAGE / 4, 0x1b, none), 0);
        Code live = new Code().create(BASE, 64, IMAGE, 16, 0, 0, 0).create(BASE + 64, 64, BASE, 16, 0, 0, 0);
        check.due("the image is a live enclave's", Bench.afterU(live).register(10), -4);
        Code lastByte = new Code().create(BASE, 64, IMAGE, 16, 0, 0, 0).create(BASE + 64, 64, BASE - 15, 16, 0, 0, 0);
        check.due("a byte of the image is", Bench.afterU(lastByte).register(10), -4);
        Code beside = new Code().create(BASE, 64, IMAGE, 16, 0, 0, 0).create(BASE + 64, 64, BASE - 16, 16, 0, 0, 0);
        check.due("none of it is", Bench.afterU(beside).register(10), 1);
    }

    private static Code six() {
        Code host = new Code();
        for (int e = 0; e < 6; e++) {
            host.create(BASE + 32 * e, 32, IMAGE, 4, 0, 0, 0);
        }
        return host;
    }

    private static void tooMany(Check check) {
        EnclaveBoard board = Bench.afterU(six());
        check.due("the sixth", board.register(10), 5);
        for (int e = 0; e < 6; e++) {
            check.due("base " + e, board.enclave(e, 1), BASE + 32 * e);
        }
        board = Bench.afterU(six().create(BASE + 512, 32, IMAGE, 4, 0, 0, 0));
        check.due("the seventh", board.register(10), -3);
        check.due("CREATES", board.state(5), 6);
        board = Bench.afterU(six().call(3, 4).call(3, 2).create(BASE + 512, 32, IMAGE, 4, 0, 0, 0));
        check.due("the least that is not live", board.register(10), 2);
        check.due("CREATES", board.state(5), 7);
    }

    private static void order(Check check) {
        check.due("-1 ahead of -2", Bench.afterU(six().create(BASE, 33, IMAGE, 4, 0, 0, 0)).register(10), -1);
        check.due("-2 ahead of -3", Bench.afterU(six().create(BASE, 32, IMAGE, 4, 0, 0, 0)).register(10), -2);
        check.due("-2 ahead of -4", Bench.afterU(new Code().create(BASE, 32, IMAGE, 4, 0, 0, 0).create(BASE, 32, BASE, 4, 0, 0, 0)).register(10), -2);
        check.due("-4 ahead of -3", Bench.afterU(six().create(BASE + 512, 32, BASE, 4, 0, 0, 0)).register(10), -4);
        EnclaveBoard board = Bench.afterU(new Code().create(BASE, 33, IMAGE, 4, 0, 0, 0));
        check.due("x11 stays", board.register(11), 33);
        check.due("no CREATE", board.state(5), 0);
        check.due("pc", board.held(0), Bench.HOST + new Code().create(BASE, 33, IMAGE, 4, 0, 0, 0).bytes());
    }

    private static void images(Check check) {
        for (int from = BASE - 70; from <= BASE + 140; from += 7) {
            for (int length : new int[] {0, 1, 7, 8, 13, 60, 64}) {
                image(check, from, length);
            }
        }
    }

    private static void image(Check check, int from, int length) {
        Code host = new Code().create(BASE, 64, from, length, 0, 0, 0);
        EnclaveBoard board = Bench.inU(host, new Code());
        byte[] bytes = new byte[512];
        for (int k = 0; k < bytes.length; k += 8) {
            long word = 0x0101010101010101L * (k + 1) ^ 0x8070605040302010L;
            board.poke(BASE - 128 + k, word);
            for (int j = 0; j < 8; j++) {
                bytes[k + j] = (byte) (word >>> 8 * j);
            }
        }
        board.run(host.size());
        long measure = 0xcbf29ce484222325L;
        for (int k = 0; k < length; k++) {
            measure = (measure ^ (bytes[from - BASE + 128 + k] & 0xff)) * 0x100000001b3L;
        }
        for (int k = 0; k < 24; k++) {
            measure = (measure ^ (k == 0 ? 64 : 0)) * 0x100000001b3L;
        }
        String what = "image at " + from + " of " + length;
        check.due(what + ": MEASURE", board.eye(0, 33), measure);
        for (int word = 0; word < 8; word++) {
            long want = 0;
            for (int j = 7; j >= 0; j--) {
                int k = 8 * word + j;
                want = want << 8 | (k < length ? bytes[from - BASE + 128 + k] & 0xff : 0);
            }
            check.due(what + ": word " + word, board.eye(0, 35 + word), want);
        }
        check.due(what + ": ahead", board.peek(BASE - 8) >>> 56, bytes[127] & 0xff);
        check.due(what + ": behind", board.peek(BASE + 64) & 0xff, bytes[192] & 0xff);
    }

    private static void destroyAndAsk(Check check) {
        Code host = new Code().create(BASE, 32, IMAGE, 8, 0, SHARED, 8).call(4, 0, 55);
        EnclaveBoard board = Bench.inU(host, new Code().add(Asm.EBREAK, 3));
        board.run(host.size());
        check.due("ASK of a NEW one", board.register(10), 1);
        check.due("its MEASURE", board.register(11), board.eye(0, 33));
        host = new Code().create(BASE, 32, IMAGE, 8, 0, SHARED, 8).enter(0, 0);
        Code rest = new Code().call(4, 0, 55);
        Code more = new Code().call(3, 0, 66);
        Code all = new Code().create(BASE, 32, IMAGE, 8, 0, SHARED, 8).enter(0, 0).call(4, 0, 55).call(3, 0, 66).call(3, 0, 67).call(4, 0, 68);
        board = Bench.inU(all, new Code().add(Asm.EBREAK, 3));
        board.poke(SHARED, 5);
        board.run(host.size() + 1 + rest.size());
        check.due("ASK of a FAULTED one", board.register(10), 3);
        check.due("its MEASURE", board.register(11), board.eye(0, 33));
        board.run(more.size());
        check.due("DESTROY", board.register(10), 0);
        check.due("x11 stays", board.register(11), 66);
        check.due("not live", board.enclave(0, 0), 0);
        check.due("its memory", board.peek(BASE), 0);
        check.due("what it shared stays", board.peek(SHARED), 5);
        check.due("entry 0", board.pmp(0, 0), 0);
        check.due("address 0", board.pmp(0, 1), 0);
        board.run(more.size());
        check.due("DESTROY again", board.register(10), -1);
        check.due("x11 stays", board.register(11), 67);
        board.run(rest.size());
        check.due("ASK of none", board.register(10), -1);
        check.due("x11 stays", board.register(11), 68);
        Code again = new Code().create(BASE, 32, IMAGE, 8, 0, SHARED, 8).enter(0, 0).call(3, 0).create(BASE, 32, IMAGE, 8, 4, 0, 0);
        board = Bench.inU(again, new Code().add(Asm.addi(9, 0, 4), 0));
        board.run(again.size() + 2);
        check.due("made again: NEW", board.enclave(0, 0), 1);
        check.due("made again: registers", board.eye(0, 9), 0);
        check.due("made again: pc", board.eye(0, 32), BASE + 4);
        check.due("made again: stays", board.enclave(0, 6), 0);
        check.due("made again: STEPS", board.enclave(0, 7), 0);
        check.due("made again: shares", board.enclave(0, 4), 0);
    }

    private static void atTheEdges(Check check) {
        for (int base : new int[] {0, 65536 - 64}) {
            Code host = new Code().create(base, 64, IMAGE, 5, 0, 0, 0).call(3, 0);
            EnclaveBoard board = Bench.inU(host, new Code().add(-1, -1));
            for (int at = base; at < base + 64; at += 8) {
                board.poke(at, -1);
            }
            board.run(host.size() - 3);
            for (int k = 0; k < 8; k++) {
                check.due("made at " + base + ": word " + k, board.eye(0, 35 + k), k == 0 ? 0xffffffffffL : 0);
            }
            board.run(3);
            check.due("destroyed at " + base, board.enclave(0, 0), 0);
            for (int at = base; at < base + 64; at += 8) {
                check.due("destroyed at " + base + ": " + at, board.peek(at), 0);
            }
        }
    }

    private static void otherCalls(Check check) {
        long[] numbers = {0, 5, -1, Long.MIN_VALUE, 1L << 32 | 1, 1L << 32 | 4};
        for (long number : numbers) {
            EnclaveBoard board = Bench.afterU(new Code().create(BASE, 32, IMAGE, 8, 0, 0, 0).call(number, 0, 7));
            check.due("CALL " + number, board.register(10), -1);
            check.due("CALL " + number + " leaves x11", board.register(11), 7);
            check.due("CALL " + number + " goes on", board.state(1), 0);
            check.due("CALL " + number + " changes none", board.enclave(0, 0), 1);
        }
        for (long e : new long[] {1, 6, -1, Long.MIN_VALUE, 1L << 32}) {
            for (int number = 2; number <= 4; number++) {
                EnclaveBoard board = Bench.afterU(new Code().create(BASE, 32, IMAGE, 8, 0, 0, 0).call(number, e, 7));
                check.due("CALL " + number + " of " + e, board.register(10), -1);
                check.due("CALL " + number + " of " + e + " leaves x11", board.register(11), 7);
                check.due("none runs", board.state(2), EnclaveBoard.NONE);
            }
        }
    }
}
