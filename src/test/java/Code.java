/** A program that grows word by word. */
final class Code {
    private int[] words = new int[16];
    private int size;

    Code add(int... more) {
        for (int word : more) {
            if (size == words.length) {
                words = java.util.Arrays.copyOf(words, 2 * size);
            }
            words[size++] = word;
        }
        return this;
    }

    /** A constant into a register, in as many words as it takes. */
    Code li(int rd, long v) {
        if (v >= -2048 && v < 2048) {
            return add(Asm.addi(rd, 0, (int) v));
        }
        int low = (int) (v << 52 >> 52);
        if (v == (int) v) {
            return add(Asm.lui(rd, (int) (v - low >> 12)), Asm.addiw(rd, rd, low));
        }
        return li(rd, v - low >> 12).add(Asm.slli(rd, rd, 12), Asm.addi(rd, rd, low));
    }

    /** A CALL: x17 and, from x10 on, the arguments. */
    Code call(long number, long... arguments) {
        for (int k = 0; k < arguments.length; k++) {
            li(10 + k, arguments[k]);
        }
        return li(17, number).add(Asm.ECALL);
    }

    Code create(long base, long size, long image, long length, long entry, long shared, long sharedSize) {
        return call(1, base, size, image, length, entry, shared, sharedSize);
    }

    Code enter(long e, long n) {
        return call(2, e, n);
    }

    Code csrw(int number, long v) {
        return li(5, v).add(Asm.csrw(number, 5));
    }

    int size() {
        return size;
    }

    int bytes() {
        return 4 * size;
    }

    int word(int k) {
        return words[k];
    }

    /** Pokes the program from a multiple of 8 on. */
    void into(EnclaveBoard board, int at) {
        for (int k = 0; k < size; k += 2) {
            long high = k + 1 < size ? words[k + 1] : 0;
            if (!board.poke(at + 4 * k, high << 32 | words[k] & 0xffffffffL)) {
                throw new IllegalStateException("no memory for the program at " + (at + 4 * k));
            }
        }
    }
}
