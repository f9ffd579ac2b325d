/** Boards that tests begin with. */
final class Bench {
    static final int HOST = 4096;
    static final int IMAGE = 8192;
    static final int BASE = 16384;
    static final int SHARED = 12288;
    static final long ALL = (1L << 54) - 1;

    private Bench() { }

    /** A board in mode M with a program at 0, not yet run. */
    static EnclaveBoard inM(Code code) {
        EnclaveBoard board = new EnclaveBoard(0);
        code.into(board, 0);
        return board;
    }

    /** A board in mode M whose program at 0 has been run to its end, a step for each word. */
    static EnclaveBoard afterM(Code code) {
        EnclaveBoard board = inM(code);
        board.run(code.size());
        return board;
    }

    /** Firmware that gives all of memory to mode U by entry 8 and goes to the host. */
    static Code openFirmware() {
        return new Code().csrw(Asm.PMPADDR0 + 8, ALL).csrw(Asm.PMPCFG2, 0x1f).csrw(Asm.MEPC, HOST).add(Asm.MRET);
    }

    static EnclaveBoard inU(Code firmware, Code host, Code image) {
        return inU(0, firmware, host, image);
    }

    /** A board whose firmware has run, the host at its first instruction. */
    static EnclaveBoard inU(long secret, Code firmware, Code host, Code image) {
        EnclaveBoard board = new EnclaveBoard(secret);
        firmware.into(board, 0);
        host.into(board, HOST);
        image.into(board, IMAGE);
        board.run(firmware.size());
        return board;
    }

    static EnclaveBoard inU(Code host, Code image) {
        return inU(0, openFirmware(), host, image);
    }

    /** A board whose host has run to the end of its program, a step for each word. */
    static EnclaveBoard afterU(Code host) {
        EnclaveBoard board = inU(host, new Code());
        board.run(host.size());
        return board;
    }

    /** Makes an enclave of 256 bytes at BASE with the image at IMAGE, which shares 64 bytes at SHARED. */
    static Code made() {
        return new Code().create(BASE, 256, IMAGE, 256, 0, SHARED, 64);
    }

    /** A board whose enclave 0 is at its first instruction, for n STEPS; behind the host's ECALL are two NOPs. */
    static EnclaveBoard entered(Code image, long n) {
        Code host = made().enter(0, n).add(Asm.NOP, Asm.NOP);
        EnclaveBoard board = inU(host, image);
        board.run(host.size() - 2);
        return board;
    }

    /** A board whose enclave 0 has run to the end of its image, a step for each word. */
    static EnclaveBoard afterEnclave(Code image) {
        EnclaveBoard board = entered(image, 0);
        board.run(image.size());
        return board;
    }
}
