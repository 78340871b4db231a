public final class BlockSealer {
    private static final int ROUNDS = 10;
    private static final int ROUND_KEYS = ROUNDS + 1;
    private static final int WORDS = 4;
    private static final int BYTES = 16;
    private static final int BYTE_VALUES = 256;
    private static final int BLOCK_BITS = 128;
    private static final int ROUND_WORDS = ROUND_KEYS * WORDS;
    private static final int FIELD_REDUCTION = 283;
    private static final int SUBSTITUTION_CONSTANT = 99;
    private static final int HASH_REDUCTION = 0xE1000000;

    private final int[] substitutes = new int[BYTE_VALUES];
    private final int[] originals = new int[BYTE_VALUES];
    private final int[] roundWords = new int[ROUND_WORDS];
    private final int[] present = new int[WORDS];
    private final int[] hashed = new int[WORDS];

    // Working space: nothing in these outlives the call that fills them.
    private final int[] square = new int[BYTES];
    private final int[] scratch = new int[BYTES];
    private final int[] factor = new int[WORDS];
    private final int[] sum = new int[WORDS];

    public BlockSealer() {
        fillSubstitution();
        // A key of 0 does not have round keys of 0.
        expandKey();
    }

    public void key(int k0, int k1, int k2, int k3) {
        roundWords[0] = k0;
        roundWords[1] = k1;
        roundWords[2] = k2;
        roundWords[3] = k3;
        expandKey();
    }

    public void block(int w0, int w1, int w2, int w3) {
        present[0] = w0;
        present[1] = w1;
        present[2] = w2;
        present[3] = w3;
    }

    public void mix(int w0, int w1, int w2, int w3) {
        present[0] ^= w0;
        present[1] ^= w1;
        present[2] ^= w2;
        present[3] ^= w3;
    }

    public void encrypt() {
        encryptWords(present);
    }

    public void decrypt() {
        decryptWords(present);
    }

    public void next() {
        present[3]++;
    }

    public int word(int index) {
        return present[index & 3];
    }

    public void absorb() {
        clear(factor);
        encryptWords(factor);
        addWords(hashed, present);
        multiplyHashByFactor();
    }

    public void restart() {
        clear(hashed);
    }

    public int hash(int index) {
        return hashed[index & 3];
    }

    public int roundKey(int q, int c) {
        int number = q % ROUND_KEYS;
        // Java's remainder bears the sign of q, the document's counts from 0 up.
        if (number < 0) {
            number += ROUND_KEYS;
        }
        return roundWords[WORDS * number + (c & 3)];
    }

    private static int product(int x, int y) {
        int result = 0;
        int doubled = x;
        for (int k = 0; k < 8; k++) {
            if (((y >> k) & 1) == 1) {
                result ^= doubled;
            }
            doubled = 2 * doubled;
            if (doubled > 255) {
                doubled ^= FIELD_REDUCTION;
            }
        }
        return result;
    }

    // The 255 bytes other than 0 are a group, so x to the power 254 is the
    // inverse of x; it is 0 for 0, which is what the document takes there.
    private static int inverse(int x) {
        int power = 1;
        for (int k = 0; k < 7; k++) {
            power = product(power, power);
            power = product(power, x);
        }
        return product(power, power);
    }

    private static int substitution(int x) {
        int v = inverse(x);
        // With v written twice, the bits above 7 are the ones taken modulo 8.
        int twice = v | (v << 8);
        int bits = twice ^ (twice >> 4) ^ (twice >> 5) ^ (twice >> 6) ^ (twice >> 7);
        return (bits & 255) ^ SUBSTITUTION_CONSTANT;
    }

    private void fillSubstitution() {
        for (int x = 0; x < BYTE_VALUES; x++) {
            int s = substitution(x);
            substitutes[x] = s;
            originals[s & 255] = x;
        }
    }

    private void expandKey() {
        int power = 1;
        for (int i = WORDS; i < ROUND_WORDS; i++) {
            int t = roundWords[i - 1];
            if (i % WORDS == 0) {
                t = substituteWord((t << 8) | (t >>> 24)) ^ (power << 24);
                power = product(power, 2);
            }
            roundWords[i] = roundWords[i - WORDS] ^ t;
        }
    }

    private int substituteWord(int w) {
        return (substitutes[w >>> 24] << 24)
                | (substitutes[(w >>> 16) & 255] << 16)
                | (substitutes[(w >>> 8) & 255] << 8)
                | substitutes[w & 255];
    }

    private void encryptWords(int[] words) {
        loadSquare(words);
        addRoundKey(0);
        for (int q = 1; q <= ROUNDS; q++) {
            replaceBytes(substitutes);
            shiftRows(1);
            if (q != ROUNDS) {
                mixColumns(2, 3, 1, 1);
            }
            addRoundKey(q);
        }
        storeSquare(words);
    }

    private void decryptWords(int[] words) {
        loadSquare(words);
        for (int q = ROUNDS; q >= 1; q--) {
            addRoundKey(q);
            if (q != ROUNDS) {
                // The first line of the inverse of the matrix that encrypting mixes with.
                mixColumns(14, 11, 13, 9);
            }
            // Three shifts more make up the four that bring every row round.
            shiftRows(3);
            replaceBytes(originals);
        }
        addRoundKey(0);
        storeSquare(words);
    }

    private void loadSquare(int[] words) {
        for (int j = 0; j < BYTES; j++) {
            square[j] = byteOf(words[j >> 2], j & 3);
        }
    }

    private void storeSquare(int[] words) {
        for (int c = 0; c < WORDS; c++) {
            int first = WORDS * c;
            words[c] = (square[first] << 24)
                    | (square[first + 1] << 16)
                    | (square[first + 2] << 8)
                    | square[first + 3];
        }
    }

    private static int byteOf(int w, int number) {
        return (w >>> (24 - 8 * number)) & 255;
    }

    private void addRoundKey(int q) {
        for (int j = 0; j < BYTES; j++) {
            square[j] ^= byteOf(roundWords[WORDS * q + (j >> 2)], j & 3);
        }
    }

    private void replaceBytes(int[] table) {
        for (int j = 0; j < BYTES; j++) {
            square[j] = table[square[j] & 255];
        }
    }

    private void shiftRows(int times) {
        for (int j = 0; j < BYTES; j++) {
            int row = j & 3;
            int column = ((j >> 2) + times * row) & 3;
            scratch[j] = square[WORDS * column + row];
        }
        takeScratch();
    }

    // Every line of the mixing matrix is the one above it turned right by one
    // place, so m0 meets the byte's own row and m1 to m3 the rows that follow.
    private void mixColumns(int m0, int m1, int m2, int m3) {
        for (int j = 0; j < BYTES; j++) {
            int row = j & 3;
            int first = j - row;
            scratch[j] = product(square[j], m0)
                    ^ product(square[first + ((row + 1) & 3)], m1)
                    ^ product(square[first + ((row + 2) & 3)], m2)
                    ^ product(square[first + ((row + 3) & 3)], m3);
        }
        takeScratch();
    }

    private void takeScratch() {
        for (int j = 0; j < BYTES; j++) {
            square[j] = scratch[j];
        }
    }

    private void multiplyHashByFactor() {
        clear(sum);
        for (int i = 0; i < BLOCK_BITS; i++) {
            if (((hashed[i >> 5] >>> (31 - (i & 31))) & 1) == 1) {
                addWords(sum, factor);
            }
            moveFactor();
        }
        clear(hashed);
        addWords(hashed, sum);
    }

    private void moveFactor() {
        int fallen = factor[3] & 1;
        for (int c = 3; c > 0; c--) {
            factor[c] = (factor[c] >>> 1) | (factor[c - 1] << 31);
        }
        factor[0] = factor[0] >>> 1;
        if (fallen == 1) {
            factor[0] ^= HASH_REDUCTION;
        }
    }

    private static void addWords(int[] target, int[] other) {
        for (int c = 0; c < WORDS; c++) {
            target[c] ^= other[c];
        }
    }

    private static void clear(int[] words) {
        for (int c = 0; c < WORDS; c++) {
            words[c] = 0;
        }
    }
}
