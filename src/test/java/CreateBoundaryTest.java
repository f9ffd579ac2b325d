/** The boundary cases that the document names of CREATE, a method for each sentence. */
public final class CreateBoundaryTest {
    private static final int BASE = Bench.BASE;
    private static final int IMAGE = Bench.IMAGE;
    private static final int SHARED = Bench.SHARED;
    private static final long[] HUGE = {-1, Long.MIN_VALUE, Long.MAX_VALUE, 1L << 32, 1L << 63 | 64};

    public static void main(String[] args) {
        Check check = new Check("CreateBoundaryTest");
        size(check.about("-1 if it is told wrongly: a size that is not 32, 64, .. 16384"));
        baseMultiple(check.about("a base that is no multiple of it"));
        baseInMemory(check.about("a base that is .. not in memory with all of it"));
        length(check.about("a length above the size"));
        image(check.about("an image not in memory with all of it"));
        noImage(check.about("(of length 0: whatever x12)"));
        entry(check.about("an entry that is no multiple of 4 below the size"));
        sharedSize(check.about("a size shared that is not 0, 8, 16, .. 4096"));
        sharedBase(check.about("else, if it is not 0, a base of that which is no multiple of it, or not in memory"));
        nothingShared(check.about("if it is not 0"));
        sharedInside(check.about("or one byte of it in the enclave's"));
        withoutSign(check.about("(all numbers without sign)"));
        meetsMemory(check.about("-2: its memory and a live enclave's memory, or what one shares, have a byte in common"));
        shareMeetsMemory(check.about("or what it shares and a live enclave's memory have"));
        mayReadAndWrite(check.about("-4: the HOST may not both read and write each of the bytes of its memory and of what it shares"));
        mayRead(check.about("or not read one of the image"));
        eachForItself(check.about("(each for itself; now)"));
        full(check.about("-3: 6 are live"));
        order(check.about("The first of"));
        least(check.about("Else the least e that is not live, NEW"));
        content(check.about("its memory has the image (as it was ahead of this) from its base on, behind it 0s"));
        refusedChangesNothing(check.about("answered in x10 (64 bits, with sign)"));
        check.end();
    }

    private static long answer(long base, long size, long image, long length, long entry, long shared, long sharedSize) {
        return Bench.afterU(new Code().create(base, size, image, length, entry, shared, sharedSize)).register(10);
    }

    private static void size(Check check) {
        for (long size = 1; size <= 65536; size *= 2) {
            boolean right = size >= 32 && size <= 16384;
            check.due("size " + size, answer(0, size, 0, 0, 0, 0, 0), right ? 0 : -1);
            check.due("size " + (size - 1), answer(0, size - 1, 0, 0, 0, 0, 0), -1);
            check.due("size " + (size + 1), answer(0, size + 1, 0, 0, 0, 0, 0), -1);
        }
        for (long size : new long[] {96, 160, 12288, 16352, 24576, -32, -16384, 1L << 32 | 32}) {
            check.due("size " + size, answer(0, size, 0, 0, 0, 0, 0), -1);
        }
    }

    private static void baseMultiple(Check check) {
        for (long size = 32; size <= 16384; size *= 2) {
            check.due("base of " + size, answer(BASE + size, size, 0, 0, 0, 0, 0), 0);
            check.due("half a size more, of " + size, answer(BASE + size / 2, size, 0, 0, 0, 0, 0), -1);
            check.due("one more, of " + size, answer(BASE + 1, size, 0, 0, 0, 0, 0), -1);
            check.due("one less, of " + size, answer(BASE - 1, size, 0, 0, 0, 0, 0), -1);
        }
    }

    private static void baseInMemory(Check check) {
        for (long size = 32; size <= 16384; size *= 2) {
            check.due("the first of " + size, answer(0, size, 0, 0, 0, 0, 0), 0);
            check.due("the last of " + size, answer(65536 - size, size, 0, 0, 0, 0, 0), 0);
            check.due("behind memory, of " + size, answer(65536, size, 0, 0, 0, 0, 0), -1);
            check.due("that wraps around to 0, of " + size, answer(-size, size, 0, 0, 0, 0, 0), -1);
            check.due("far off, of " + size, answer(1L << 32, size, 0, 0, 0, 0, 0), -1);
        }
    }

    private static void length(Check check) {
        for (long size = 32; size <= 16384; size *= 2) {
            check.due("as long as " + size, answer(32768, size, 0, size, 0, 0, 0), 0);
            check.due("one less than " + size, answer(32768, size, 0, size - 1, 0, 0, 0), 0);
            check.due("one above " + size, answer(32768, size, 0, size + 1, 0, 0, 0), -1);
        }
        for (long length : HUGE) {
            check.due("length " + length, answer(BASE, 64, 0, length, 0, 0, 0), -1);
        }
    }

    private static void image(Check check) {
        for (long length : new long[] {1, 2, 7, 8, 31, 64}) {
            check.due("the first of " + length, answer(BASE, 64, 0, length, 0, 0, 0), 0);
            check.due("the last of " + length, answer(BASE, 64, 65536 - length, length, 0, 0, 0), 0);
            check.due("one behind it, of " + length, answer(BASE, 64, 65537 - length, length, 0, 0, 0), -1);
            check.due("behind memory, of " + length, answer(BASE, 64, 65536, length, 0, 0, 0), -1);
            check.due("that wraps around to 0, of " + length, answer(BASE, 64, -length, length, 0, 0, 0), -1);
            check.due("that wraps around, of " + length, answer(BASE, 64, -1, length, 0, 0, 0), -1);
        }
        for (long at : HUGE) {
            check.due("image " + at, answer(BASE, 64, at, 8, 0, 0, 0), -1);
        }
    }

    private static void noImage(Check check) {
        for (long at : new long[] {0, 1, 65535, 65536, 65537, -1, Long.MIN_VALUE, Long.MAX_VALUE, 1L << 32}) {
            EnclaveBoard board = Bench.inU(new Code().create(BASE, 32, at, 0, 0, 0, 0), new Code());
            board.poke(BASE, -1);
            board.poke(BASE + 24, -1);
            board.run(new Code().create(BASE, 32, at, 0, 0, 0, 0).size());
            check.due("x12 " + at, board.register(10), 0);
            for (int k = 0; k < 4; k++) {
                check.due("x12 " + at + ": word " + k, board.eye(0, 35 + k), 0);
            }
        }
    }

    private static void entry(Check check) {
        for (long size = 32; size <= 16384; size *= 2) {
            check.due("entry 0 of " + size, answer(32768, size, 0, 0, 0, 0, 0), 0);
            check.due("the last entry of " + size, answer(32768, size, 0, 0, size - 4, 0, 0), 0);
            check.due("an entry at " + size, answer(32768, size, 0, 0, size, 0, 0), -1);
            check.due("an entry behind " + size, answer(32768, size, 0, 0, size + 4, 0, 0), -1);
            for (int off = 1; off < 4; off++) {
                check.due("entry " + off + " of " + size, answer(32768, size, 0, 0, off, 0, 0), -1);
                check.due("entry " + (size - off) + " of " + size, answer(32768, size, 0, 0, size - off, 0, 0), -1);
            }
        }
        for (long entry : new long[] {-4, Long.MIN_VALUE, 1L << 32}) {
            check.due("entry " + entry, answer(BASE, 64, 0, 0, entry, 0, 0), -1);
        }
        check.due("an entry behind the image", answer(BASE, 64, 0, 4, 60, 0, 0), 0);
    }

    private static void sharedSize(Check check) {
        check.due("size shared 0", answer(BASE, 64, 0, 0, 0, 0, 0), 0);
        for (long size = 1; size <= 65536; size *= 2) {
            boolean right = size >= 8 && size <= 4096;
            check.due("size shared " + size, answer(BASE, 64, 0, 0, 0, 0, size), right ? 0 : -1);
            check.due("size shared " + (size + 1), answer(BASE, 64, 0, 0, 0, 0, size + 1), -1);
        }
        for (long size : new long[] {24, 48, 2048 + 8, 4088, 4096 + 8, 6144, -8, -4096, 1L << 32 | 8, 1L << 32, Long.MIN_VALUE}) {
            check.due("size shared " + size, answer(BASE, 64, 0, 0, 0, 0, size), -1);
        }
    }

    private static void sharedBase(Check check) {
        for (long size = 8; size <= 4096; size *= 2) {
            check.due("the first of " + size, answer(BASE, 64, 0, 0, 0, 0, size), 0);
            check.due("the last of " + size, answer(BASE, 64, 0, 0, 0, 65536 - size, size), 0);
            check.due("behind memory, of " + size, answer(BASE, 64, 0, 0, 0, 65536, size), -1);
            check.due("that wraps around to 0, of " + size, answer(BASE, 64, 0, 0, 0, -size, size), -1);
            check.due("half a size more, of " + size, answer(BASE, 64, 0, 0, 0, 32768 + size / 2, size), -1);
            check.due("one more, of " + size, answer(BASE, 64, 0, 0, 0, 32769, size), -1);
            check.due("far off, of " + size, answer(BASE, 64, 0, 0, 0, 1L << 32, size), -1);
        }
    }

    private static void nothingShared(Check check) {
        for (long shared : new long[] {1, 3, BASE, BASE + 8, 65536, -1, -8, Long.MIN_VALUE}) {
            EnclaveBoard board = Bench.afterU(new Code().create(BASE, 64, 0, 0, 0, shared, 0));
            check.due("x15 " + shared, board.register(10), 0);
            check.due("x15 " + shared + ": it shares nothing", board.enclave(0, 4), 0);
            check.due("x15 " + shared + ": of size 0", board.enclave(0, 5), 0);
        }
    }

    private static void sharedInside(Check check) {
        for (long off = -8; off <= 64; off += 8) {
            boolean inside = off >= 0 && off < 64;
            check.due("shared at " + off, answer(BASE, 64, 0, 0, 0, BASE + off, 8), inside ? -1 : 0);
        }
        check.due("all around it", answer(BASE + 1024, 32, 0, 0, 0, BASE, 4096), -1);
        check.due("the last bytes of what is shared", answer(BASE + 4064, 32, 0, 0, 0, BASE, 4096), -1);
        check.due("behind what is shared", answer(BASE + 4096, 32, 0, 0, 0, BASE, 4096), 0);
        check.due("ahead of what is shared", answer(BASE - 32, 32, 0, 0, 0, BASE, 4096), 0);
    }

    private static void withoutSign(Check check) {
        for (long v : HUGE) {
            check.due("base " + v, answer(v, 64, 0, 0, 0, 0, 0), -1);
            check.due("size " + v, answer(0, v, 0, 0, 0, 0, 0), -1);
            check.due("image " + v, answer(BASE, 64, v, 1, 0, 0, 0), -1);
            check.due("length " + v, answer(BASE, 64, 0, v, 0, 0, 0), -1);
            check.due("entry " + v, answer(BASE, 64, 0, 0, v, 0, 0), -1);
            check.due("shared " + v, answer(BASE, 64, 0, 0, 0, v, 8), -1);
            check.due("size shared " + v, answer(BASE, 64, 0, 0, 0, 0, v), -1);
        }
        check.due("base -64", answer(-64, 64, 0, 0, 0, 0, 0), -1);
        check.due("shared -8", answer(BASE, 64, 0, 0, 0, -8, 8), -1);
        check.due("entry -4", answer(BASE, 64, 0, 0, -4, 0, 0), -1);
    }

    /** Of a second CREATE behind one of 64 bytes at BASE that shares 64 at SHARED. */
    private static long second(long base, long size, long shared, long sharedSize) {
        return Bench.afterU(new Code().create(BASE, 64, 0, 0, 0, SHARED, 64).create(base, size, 0, 0, 0, shared, sharedSize)).register(10);
    }

    private static void meetsMemory(Check check) {
        for (int off = -32; off <= 64; off += 32) {
            boolean meets = off >= 0 && off < 64;
            check.due("memory at " + off, second(BASE + off, 32, 0, 0), meets ? -2 : 1);
            check.due("memory where one shares at " + off, second(SHARED + off, 32, 0, 0), meets ? -2 : 1);
        }
        check.due("memory around memory", second(BASE, 16384, 0, 0), -2);
        check.due("memory around what one shares", second(8192, 8192, 0, 0), -2);
        check.due("memory up to memory", second(BASE - 4096, 4096, 0, 0), -2);
        check.due("what is shared is shared again", second(BASE + 64, 32, SHARED, 64), 1);
        check.due("a part of it is shared again", second(BASE + 64, 32, SHARED + 56, 8), 1);
        Code one = new Code().create(BASE, 32, 0, 0, 0, SHARED, 8).create(SHARED, 32, 0, 0, 0, 0, 0);
        check.due("eight bytes in common", Bench.afterU(one).register(10), -2);
        Code none = new Code().create(BASE, 32, 0, 0, 0, SHARED, 0).create(SHARED, 32, 0, 0, 0, 0, 0);
        check.due("one shares nothing", Bench.afterU(none).register(10), 1);
        Code atZero = new Code().create(BASE, 32, 0, 0, 0, 0, 0).create(0, 32, 0, 0, 0, 0, 0);
        check.due("one shares nothing, and the memory is at 0", Bench.afterU(atZero).register(10), 1);
        Code gone = new Code().create(BASE, 64, 0, 0, 0, SHARED, 64).call(3, 0).create(BASE, 64, 0, 0, 0, 0, 0);
        check.due("one that is not live any more", Bench.afterU(gone).register(10), 0);
        Code goneShare = new Code().create(BASE, 64, 0, 0, 0, SHARED, 64).call(3, 0).create(SHARED, 64, 0, 0, 0, 0, 0);
        check.due("what such a one shared", Bench.afterU(goneShare).register(10), 0);
    }

    private static void shareMeetsMemory(Check check) {
        for (int off = -8; off <= 64; off += 8) {
            boolean meets = off >= 0 && off < 64;
            check.due("shares at " + off, second(BASE + 128, 32, BASE + off, 8), meets ? -2 : 1);
        }
        check.due("shares all around it", second(BASE + 4096, 32, BASE, 4096), -2);
        check.due("shares nothing, at its base", second(BASE + 128, 32, BASE, 0), 1);
        check.due("shares nothing, inside it", second(BASE + 128, 32, BASE + 8, 0), 1);
        Code faulted = new Code().create(BASE, 32, 0, 0, 0, 0, 0).enter(0, 0).create(BASE + 32, 32, 0, 0, 0, BASE, 8);
        EnclaveBoard board = Bench.inU(faulted, new Code());
        board.run(faulted.size() + 1);
        check.due("a FAULTED one is live", board.register(10), -2);
    }

    /** A host that may all but what entry 8 tells of. */
    private static long guarded(int config, int at, Code host) {
        Code firmware = new Code().csrw(Asm.PMPADDR0 + 8, at / 4).csrw(Asm.PMPADDR0 + 9, -1).csrw(Asm.PMPCFG2, 0x1f00 | config)
                .csrw(Asm.MEPC, Bench.HOST).add(Asm.MRET);
        EnclaveBoard board = Bench.inU(firmware, host, new Code());
        board.run(host.size());
        if (board.state(1) != 0) {
            throw new IllegalStateException("the host is STOPPED");
        }
        return board.register(10);
    }

    /** A host that may all below an address and nothing from there on. */
    private static long openUpTo(int end, Code host) {
        Code firmware = new Code().csrw(Asm.PMPADDR0 + 8, end / 4).csrw(Asm.PMPCFG2, 0x0f).csrw(Asm.MEPC, Bench.HOST).add(Asm.MRET);
        EnclaveBoard board = Bench.inU(firmware, host, new Code());
        board.run(host.size());
        return board.register(10);
    }

    /** Seven entries of four bytes each in the enclave's memory, one of them with other rights, and all else open. */
    private static long islands(int closed) {
        Code firmware = new Code();
        long configs = 0x1fL << 56;
        for (int k = 0; k < 7; k++) {
            firmware.csrw(Asm.PMPADDR0 + 8 + k, BASE / 4 + 1 + 2 * k);
            configs |= (k == closed ? 0x11L : 0x13L) << 8 * k;
        }
        firmware.csrw(Asm.PMPADDR0 + 15, -1).csrw(Asm.PMPCFG2, configs).csrw(Asm.MEPC, Bench.HOST).add(Asm.MRET);
        Code host = new Code().create(BASE, 64, BASE, 64, 0, 0, 0);
        EnclaveBoard board = Bench.inU(firmware, host, new Code());
        board.run(host.size());
        return board.register(10);
    }

    private static void mayReadAndWrite(Check check) {
        Code host = new Code().create(BASE, 64, IMAGE, 16, 0, SHARED, 16);
        for (int off = -4; off <= 64; off += 4) {
            for (int config : new int[] {0x10, 0x11, 0x14, 0x15}) {
                check.due("memory at " + off + " with " + config, guarded(config, BASE + off, host), off >= 0 && off < 64 ? -4 : 0);
                check.due("shared at " + off + " with " + config, guarded(config, SHARED + off, host), off >= 0 && off < 16 ? -4 : 0);
            }
        }
        for (int config : new int[] {0x13, 0x17}) {
            check.due("memory with " + config, guarded(config, BASE, host), 0);
            check.due("shared with " + config, guarded(config, SHARED, host), 0);
        }
        for (int end = 0; end <= 68; end += 4) {
            check.due("memory that is open up to " + end, openUpTo(BASE + end, host), end < 64 ? -4 : 0);
        }
        for (int end = 0; end <= 20; end += 4) {
            Code below = new Code().create(4096 + 1024, 64, 0, 0, 0, SHARED, 16);
            check.due("shared that is open up to " + end, openUpTo(SHARED + end, below), end < 16 ? -4 : 0);
        }
        Code nothing = new Code().create(BASE, 64, IMAGE, 16, 0, SHARED, 0);
        check.due("nothing shared, nothing asked", guarded(0x10, SHARED, nothing), 0);
    }

    private static void mayRead(Check check) {
        for (int length : new int[] {1, 4, 5, 16}) {
            Code host = new Code().create(BASE, 64, IMAGE + 3, length, 0, 0, 0);
            for (int off = -4; off <= 24; off += 4) {
                boolean inside = off + 3 >= 3 && off < 3 + length;
                check.due("image of " + length + " at " + off, guarded(0x10, IMAGE + off, host), inside ? -4 : 0);
                check.due("to run alone, of " + length + " at " + off, guarded(0x14, IMAGE + off, host), inside ? -4 : 0);
                check.due("to read alone, of " + length + " at " + off, guarded(0x11, IMAGE + off, host), 0);
            }
        }
        for (int end = 0; end <= 20; end += 4) {
            Code host = new Code().create(5120, 64, IMAGE, 16, 0, 0, 0);
            check.due("an image that is open up to " + end, openUpTo(IMAGE + end, host), end < 16 ? -4 : 0);
        }
        check.due("of no image no byte", guarded(0x10, IMAGE, new Code().create(BASE, 64, IMAGE, 0, 0, 0, 0)), 0);
    }

    private static void eachForItself(Check check) {
        Code host = new Code().create(BASE, 64, IMAGE, 16, 0, SHARED, 16);
        for (int at : new int[] {BASE, BASE + 4, BASE + 60, SHARED + 4, IMAGE + 4}) {
            check.due("an entry with a part of it at " + at, guarded(0x13, at, host), 0);
        }
        for (int closed = 0; closed <= 7; closed++) {
            check.due("seven entries in it, without W in " + closed, islands(closed), closed < 7 ? -4 : 0);
        }
        check.due("the image is a live enclave's", Bench.afterU(new Code().create(BASE, 64, 0, 0, 0, 0, 0).create(BASE + 64, 64, BASE, 64, 0, 0, 0)).register(10), -4);
        for (int off = -17; off <= 64; off++) {
            Code both = new Code().create(BASE, 64, IMAGE, 16, 0, 0, 0).create(BASE + 256, 64, BASE + off, 16, 0, 0, 0);
            check.due("the image at " + off + " of one", Bench.afterU(both).register(10), off > -16 && off < 64 ? -4 : 1);
        }
        Code gone = new Code().create(BASE, 64, IMAGE, 16, 0, 0, 0).call(3, 0).create(BASE + 64, 64, BASE, 16, 0, 0, 0);
        check.due("now: it is not live any more", Bench.afterU(gone).register(10), 0);
    }

    private static Code six() {
        Code host = new Code();
        for (int e = 0; e < 6; e++) {
            host.create(BASE + 32 * e, 32, 0, 0, 0, 0, 0);
        }
        return host;
    }

    private static void full(Check check) {
        EnclaveBoard board = Bench.afterU(six());
        check.due("the sixth", board.register(10), 5);
        board = Bench.afterU(six().create(BASE + 512, 32, 0, 0, 0, 0, 0));
        check.due("the seventh", board.register(10), -3);
        check.due("CREATES", board.state(5), 6);
        board = Bench.inU(six().create(BASE + 512, 32, 0, 0, 0, 0, 0), new Code());
        board.poke(BASE + 512, 7);
        board.run(six().create(BASE + 512, 32, 0, 0, 0, 0, 0).size());
        check.due("its memory stays", board.peek(BASE + 512), 7);
        check.due("once one is destroyed", Bench.afterU(six().call(3, 5).create(BASE + 512, 32, 0, 0, 0, 0, 0)).register(10), 5);
    }

    private static void order(Check check) {
        check.due("-1 ahead of -2, -4, -3", Bench.afterU(six().create(BASE, 32, BASE, 33, 0, 0, 0)).register(10), -1);
        check.due("-2 ahead of -4, -3", Bench.afterU(six().create(BASE, 32, BASE, 32, 0, 0, 0)).register(10), -2);
        check.due("-2 by what it shares", Bench.afterU(six().create(BASE + 512, 32, BASE, 32, 0, BASE, 8)).register(10), -2);
        check.due("-4 ahead of -3", Bench.afterU(six().create(BASE + 512, 32, BASE, 32, 0, 0, 0)).register(10), -4);
        check.due("-3 at last", Bench.afterU(six().create(BASE + 512, 32, BASE + 256, 32, 0, 0, 0)).register(10), -3);
        check.due("its own share within it ahead of -2", Bench.afterU(six().create(BASE, 32, 0, 0, 0, BASE, 8)).register(10), -1);
    }

    private static void least(Check check) {
        for (int e = 0; e < 6; e++) {
            EnclaveBoard board = Bench.afterU(six().call(3, e).create(BASE + 512, 64, 0, 0, 8, SHARED, 16));
            check.due("the one destroyed", board.register(10), e);
            check.due("NEW", board.enclave(e, 0), 1);
            check.due("its base", board.enclave(e, 1), BASE + 512);
            check.due("CREATES", board.state(5), 7);
        }
        check.due("of two the least", Bench.afterU(six().call(3, 5).call(3, 1).create(BASE + 512, 64, 0, 0, 8, 0, 0)).register(10), 1);
        check.due("the first of all", Bench.afterU(new Code().create(BASE, 32, 0, 0, 0, 0, 0)).register(10), 0);
    }

    private static void content(Check check) {
        for (int off : new int[] {-64, -63, -33, -32, -1, 0, 1, 7, 8, 31, 32, 63, 64, 80}) {
            for (int length : new int[] {0, 1, 8, 31, 32, 63, 64}) {
                made(check, off, length);
            }
        }
    }

    /** An image that begins at an offset from the enclave's base, so that the two may have bytes in common. */
    private static void made(Check check, int off, int length) {
        Code host = new Code().create(BASE, 64, BASE + off, length, 0, 0, 0);
        EnclaveBoard board = Bench.inU(host, new Code());
        for (int at = BASE - 128; at < BASE + 256; at += 8) {
            board.poke(at, word(at));
        }
        board.run(host.size());
        String what = "image at " + off + " of " + length;
        for (int k = 0; k < 8; k++) {
            long want = 0;
            for (int j = 7; j >= 0; j--) {
                int at = 8 * k + j;
                want = want << 8 | (at < length ? valueAt(BASE + off + at) : 0);
            }
            check.due(what + ": word " + k, board.eye(0, 35 + k), want);
        }
        check.due(what + ": ahead of it", board.peek(BASE - 8), word(BASE - 8));
        check.due(what + ": behind it", board.peek(BASE + 64), word(BASE + 64));
    }

    private static int valueAt(int at) {
        return at * 7 + 3 & 0xff;
    }

    private static long word(int at) {
        long v = 0;
        for (int j = 7; j >= 0; j--) {
            v = v << 8 | valueAt(at + j);
        }
        return v;
    }

    private static void refusedChangesNothing(Check check) {
        Code[] hosts = {
            new Code().create(BASE, 33, 1, 2, 3, 4, 5), new Code().create(BASE, 32, 0, 0, 0, 0, 0).create(BASE, 32, 1, 2, 4, 8, 8),
            new Code().create(BASE, 32, 0, 0, 0, 0, 0).create(BASE + 32, 32, BASE, 2, 4, 8, 8), six().create(BASE + 512, 32, 1, 2, 4, 8, 8)
        };
        long[] want = {-1, -2, -4, -3};
        for (int k = 0; k < hosts.length; k++) {
            EnclaveBoard board = Bench.inU(hosts[k], new Code());
            board.poke(BASE + 1024, 5);
            board.run(hosts[k].size() - 1);
            int creates = board.state(5);
            long[] registers = new long[32];
            for (int r = 0; r < 32; r++) {
                registers[r] = board.register(r);
            }
            board.run(1);
            for (int r = 0; r < 32; r++) {
                check.due("x" + r + " behind " + want[k], board.register(r), r == 10 ? want[k] : registers[r]);
            }
            check.due("pc behind " + want[k], board.held(0), Bench.HOST + hosts[k].bytes());
            check.due("CREATES behind " + want[k], board.state(5), creates);
            check.due("the host goes on behind " + want[k], board.state(1), 0);
        }
    }
}
