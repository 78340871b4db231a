import java.util.Arrays;

/**
 * The sentences under 'Terms' that name a boundary, each with a test of its own.
 * What is due comes from the terms worked out as the document words them. Where
 * a term is seen only through many rounds, its test also works out what breaking
 * the sentence would answer, and fails if its inputs could not tell the two apart.
 */
public final class BlockSealerTermBoundaries {
    private static final int SHOWN = 10;
    private static int wrong = 0;
    private static int wrongBefore = 0;

    private static void hold(boolean held, String what) {
        if (!held) {
            wrong++;
            if (wrong - wrongBefore <= SHOWN) {
                System.out.println(what);
            }
        }
    }

    /** Runs the test of one sentence, which is given in the document's words. */
    private static void sentence(String words, Runnable test) {
        wrongBefore = wrong;
        test.run();
        if (wrong != wrongBefore) {
            System.out.println("BROKEN: '" + words + "', " + (wrong - wrongBefore) + " answers are not as due");
        }
    }

    private static void due(String what, int got, int want) {
        hold(got == want, what + " answered " + hex(got) + ", due is " + hex(want));
    }

    private static void due(String what, int[] got, int[] want) {
        hold(Arrays.equals(got, want), what + " answered " + hex(got) + ", due is " + hex(want));
    }

    private static String hex(int... words) {
        StringBuilder text = new StringBuilder();
        for (int w : words) {
            text.append(String.format("%08x", w));
        }
        return text.toString();
    }

    private static int[] words(String hex) {
        int[] w = new int[hex.length() / 8];
        for (int i = 0; i < w.length; i++) {
            w[i] = Integer.parseUnsignedInt(hex.substring(8 * i, 8 * i + 8), 16);
        }
        return w;
    }

    /** The terms in the document's words; what a sentence says stands in a method that a broken reading replaces. */
    private static class Reading {
        private int[] table;

        int doubled(int x) {
            return 2 * x > 255 ? 2 * x ^ 283 : 2 * x;
        }

        int inverseOfZero() {
            return 0;
        }

        int bit(int v, int number) {
            return v >> number % 8 & 1;
        }

        int byteOfBlock(int[] block, int j) {
            return block[j / 4] >>> 24 - 8 * (j % 4) & 255;
        }

        int columnBefore(int c, int r) {
            return (c + r) % 4;
        }

        boolean mixed(int q) {
            return q != 10;
        }

        int lastRound() {
            return 10;
        }

        int product(int x, int y) {
            int result = 0;
            for (int k = 0; k <= 7; k++) {
                if ((y >> k & 1) == 1) {
                    result ^= x;
                }
                x = doubled(x);
            }
            // Only a broken doubling leaves more than eight bits.
            return result & 255;
        }

        int inverse(int x) {
            if (x == 0) {
                return inverseOfZero();
            }
            for (int y = 1; y < 256; y++) {
                if (product(x, y) == 1) {
                    return y;
                }
            }
            return 0;
        }

        int affine(int v) {
            int s = 0;
            for (int k = 0; k <= 7; k++) {
                s |= (bit(v, k) ^ bit(v, k + 4) ^ bit(v, k + 5) ^ bit(v, k + 6) ^ bit(v, k + 7) ^ 99 >> k & 1) << k;
            }
            return s;
        }

        int substitute(int x) {
            if (table == null) {
                table = new int[256];
                for (int b = 0; b < 256; b++) {
                    table[b] = affine(inverse(b));
                }
            }
            return table[x];
        }

        int[] roundWords(int[] key) {
            int[] r = Arrays.copyOf(key, 44);
            int power = 1;
            for (int i = 4; i <= 43; i++) {
                int t = r[i - 1];
                if (i % 4 == 0) {
                    int turned = t << 8 | t >>> 24;
                    t = power << 24;
                    for (int k = 0; k < 32; k += 8) {
                        t ^= substitute(turned >>> k & 255) << k;
                    }
                    power = doubled(power) & 255;
                }
                r[i] = r[i - 4] ^ t;
            }
            return r;
        }

        int[] encrypt(int[] key, int[] block) {
            int[] r = roundWords(key);
            int[] b = new int[16];
            for (int j = 0; j < 16; j++) {
                b[j] = byteOfBlock(block, j) ^ byteOfBlock(r, j);
            }
            for (int q = 1; q <= lastRound(); q++) {
                int[] next = new int[16];
                for (int j = 0; j < 16; j++) {
                    next[j] = substitute(b[4 * columnBefore(j / 4, j % 4) + j % 4]);
                }
                b = mixed(q) ? mix(next) : next;
                for (int j = 0; j < 16; j++) {
                    b[j] ^= byteOfBlock(r, 4 * 4 * q + j);
                }
            }
            int[] answer = new int[4];
            for (int j = 0; j < 16; j++) {
                answer[j / 4] |= b[j] << 24 - 8 * (j % 4);
            }
            return answer;
        }

        private int[] mix(int[] b) {
            int[] m = new int[16];
            for (int c = 0; c < 16; c += 4) {
                int b0 = b[c];
                int b1 = b[c + 1];
                int b2 = b[c + 2];
                int b3 = b[c + 3];
                m[c] = product(b0, 2) ^ product(b1, 3) ^ b2 ^ b3;
                m[c + 1] = b0 ^ product(b1, 2) ^ product(b2, 3) ^ b3;
                m[c + 2] = b0 ^ b1 ^ product(b2, 2) ^ product(b3, 3);
                m[c + 3] = product(b0, 3) ^ b1 ^ b2 ^ product(b3, 2);
            }
            return m;
        }

        int[] hashProduct(int[] x, int[] y) {
            int[] v = bits(y);
            int[] z = new int[128];
            int[] chosen = bits(x);
            for (int i = 0; i <= 127; i++) {
                for (int n = 0; n < 128; n++) {
                    z[n] ^= chosen[i] & v[n];
                }
                int last = v[127];
                System.arraycopy(v, 0, v, 1, 127);
                v[0] = 0;
                // 0xE1000000 has the bits 0, 1, 2 and 7 of word 0.
                for (int n : new int[] {0, 1, 2, 7}) {
                    v[n] ^= last;
                }
            }
            int[] answer = new int[4];
            for (int n = 0; n < 128; n++) {
                answer[n / 32] = answer[n / 32] << 1 | z[n];
            }
            return answer;
        }

        private static int[] bits(int[] block) {
            int[] b = new int[128];
            for (int n = 0; n < 128; n++) {
                b[n] = block[n / 32] >>> 31 - n % 32 & 1;
            }
            return b;
        }
    }

    private static final Reading DOCUMENT = new Reading();
    private static final int[] ZERO = new int[4];
    private static final int[] ONES = {-1, -1, -1, -1};
    private static final int[] COUNTED = words("000102030405060708090a0b0c0d0e0f");
    private static final int[] MIXED = words("2b7e151628aed2a6abf7158809cf4f3c");
    private static final int[][] KEYS = {ZERO, ONES, COUNTED, MIXED,
        {Integer.MIN_VALUE, 0, 0, 0}, {0, 0, 0, 1}, {0, 0, 0, Integer.MIN_VALUE}, {1, 0, 0, 0}};

    private static BlockSealer with(int[] key, int[] block) {
        BlockSealer x = new BlockSealer();
        x.key(key[0], key[1], key[2], key[3]);
        x.block(block[0], block[1], block[2], block[3]);
        return x;
    }

    private static int[] present(BlockSealer x) {
        return new int[] {x.word(0), x.word(1), x.word(2), x.word(3)};
    }

    private static int[] encrypted(int[] key, int[] block) {
        BlockSealer x = with(key, block);
        x.encrypt();
        return present(x);
    }

    private static int[] decrypted(int[] key, int[] block) {
        BlockSealer x = with(key, block);
        x.decrypt();
        return present(x);
    }

    private static int[] roundWords(int[] key) {
        BlockSealer x = with(key, ZERO);
        int[] r = new int[44];
        for (int i = 0; i < 44; i++) {
            r[i] = x.roundKey(i / 4, i % 4);
        }
        return r;
    }

    /** S as the class has it: the key 0, 0, 0, x makes r4 of it, and nothing else. */
    private static int substituteSeen(int x) {
        return with(new int[] {0, 0, 0, x}, ZERO).roundKey(1, 0) >>> 8 & 255;
    }

    /** The class encrypts as the document says, both ways, and every broken reading would answer something else. */
    private static void encryptsAsTheDocument(String sentence, int[] key, int[] block, Reading... broken) {
        int[] want = DOCUMENT.encrypt(key, block);
        String what = sentence + ": key " + hex(key) + ", ";
        due(what + "encrypting " + hex(block), encrypted(key, block), want);
        due(what + "decrypting " + hex(want), decrypted(key, want), block);
        for (Reading r : broken) {
            hold(!Arrays.equals(r.encrypt(key, block), want), what + hex(block) + " can't tell the broken reading");
        }
    }

    private static int[] blockOf(int... bytes) {
        int[] w = new int[4];
        for (int j = 0; j < 16; j++) {
            w[j / 4] = w[j / 4] << 8 | bytes[j % bytes.length];
        }
        return w;
    }

    private static int originalOf(int s) {
        int x = 0;
        while (DOCUMENT.substitute(x) != s) {
            x++;
        }
        return x;
    }

    private static void aboveTwoHundredAndFiftyFive() {
        Reading tooSoon = new Reading() {
            int doubled(int x) {
                return 2 * x > 253 ? 2 * x ^ 283 : 2 * x;
            }
        };
        Reading tooLate = new Reading() {
            int doubled(int x) {
                return 2 * x > 256 ? 2 * x ^ 283 : 2 * x;
            }
        };
        Reading never = new Reading() {
            int doubled(int x) {
                return 2 * x & 255;
            }
        };
        Reading otherNumber = new Reading() {
            int doubled(int x) {
                return 2 * x > 255 ? 2 * x ^ 285 : 2 * x;
            }
        };
        due("127 doubled is 254, not above 255", DOCUMENT.doubled(127), 254);
        due("128 doubled is above 255", DOCUMENT.doubled(128), 27);
        due("255 doubled is above 255", DOCUMENT.doubled(255), 229);
        // With the key 0 these bytes stand before the first mixing, each in every row of some block.
        int[] edges = {127, 128, 255, 0, 1, 254, 129, 126};
        for (int a : edges) {
            for (int b : edges) {
                int[] block = blockOf(originalOf(a), originalOf(b), originalOf(0));
                encryptsAsTheDocument("if that is above 255", ZERO, block, tooSoon, tooLate, never, otherNumber);
            }
        }
    }

    private static void everyOtherByteHasOneInverse() {
        boolean[] met = new boolean[256];
        for (int x = 1; x < 256; x++) {
            int s = substituteSeen(x);
            int v = 0;
            while (v < 255 && DOCUMENT.affine(v) != s) {
                v++;
            }
            due("the product of " + x + " and the inverse behind S(" + x + ")", DOCUMENT.product(x, v), 1);
            hold(!met[v], v + " is the inverse of two bytes, one of them " + x);
            met[v] = true;
        }
        hold(!met[0], "0 is the inverse of a byte other than 0");
    }

    private static void inverseOfZeroIsZero() {
        Reading one = new Reading() {
            int inverseOfZero() {
                return 1;
            }
        };
        due("the inverse of 0 is taken as 0: S(0)", substituteSeen(0), 99);
        due("the inverse of 0 is taken as 0: r4 of the key 0", roundWords(ZERO)[4], 0x62636363);
        // A block that is the key is 0 when the first bytes are replaced.
        for (int[] key : KEYS) {
            encryptsAsTheDocument("the inverse of 0 is taken as 0", key, key, one);
        }
        for (int j = 0; j < 16; j++) {
            int[] block = blockOf(1, 2, 3, 4, 5, 6, 7, 8, 9, 10, 11, 12, 13, 14, 15, 16);
            block[j / 4] &= ~(255 << 24 - 8 * (j % 4));
            encryptsAsTheDocument("the inverse of 0 is taken as 0, byte " + j, ZERO, block, one);
        }
    }

    private static void bitNumbersAreTakenModuloEight() {
        // v has one bit alone, so S is 99 with five bits changed, from bit k on and round the end.
        int[][] rows = {{1, 0x1f}, {2, 0x3e}, {4, 0x7c}, {8, 0xf8}, {16, 0xf1}, {32, 0xe3}, {64, 0xc7}, {128, 0x8f}};
        for (int[] row : rows) {
            int x = DOCUMENT.inverse(row[0]);
            due("numbers of bits taken modulo 8: S of the inverse of " + row[0], substituteSeen(x), row[1] ^ 99);
        }
    }

    private static void everyByteInEveryPlace() {
        for (int x = 0; x < 256; x++) {
            int want = DOCUMENT.substitute(x);
            for (int place = 0; place < 32; place += 8) {
                // The word is turned left by eight bits before its bytes are replaced.
                int seen = with(new int[] {0, 0, 0, x << place}, ZERO).roundKey(1, 0) ^ 0x01000000;
                due("S(" + x + ") of byte " + place / 8 + " from the lowest",
                    seen, 0x63636363 ^ Integer.rotateLeft((want ^ 99) << place, 8));
            }
            encryptsAsTheDocument("S of sixteen bytes " + x, COUNTED, blockOf(x));
        }
    }

    private static void byteZeroIsTheHighest() {
        Reading lowestFirst = new Reading() {
            int byteOfBlock(int[] block, int j) {
                return block[j / 4] >>> 8 * (j % 4) & 255;
            }
        };
        Reading rowsAsWords = new Reading() {
            int byteOfBlock(int[] block, int j) {
                return super.byteOfBlock(block, j / 16 * 16 + j % 4 * 4 + j % 16 / 4);
            }
        };
        for (int j = 0; j < 16; j++) {
            for (int b : new int[] {1, 127, 128, 255}) {
                int[] block = new int[4];
                block[j / 4] = b << 24 - 8 * (j % 4);
                encryptsAsTheDocument("byte " + j + " alone", MIXED, block, lowestFirst, rowsAsWords);
                encryptsAsTheDocument("byte " + j + " of the key alone", block, COUNTED, lowestFirst, rowsAsWords);
            }
        }
    }

    private static void theFirstFourRoundWordsAreTheKey() {
        for (int[] key : KEYS) {
            due("r0 to r3 are the key", Arrays.copyOf(roundWords(key), 4), key);
        }
        for (int c = 0; c < 4; c++) {
            for (int w : new int[] {1, -1, Integer.MIN_VALUE, Integer.MAX_VALUE}) {
                int[] key = new int[4];
                key[c] = w;
                due("r0 to r3 are the key", Arrays.copyOf(roundWords(key), 4), key);
            }
        }
    }

    private static void onlyMultiplesOfFourAreReplaced() {
        for (int[] key : KEYS) {
            int[] r = roundWords(key);
            for (int i = 4; i <= 43; i++) {
                boolean plain = r[i] == (r[i - 4] ^ r[i - 1]);
                hold(plain == (i % 4 != 0), "if i is a multiple of 4: r" + i + " of the key " + hex(key) + " is " + hex(r[i]));
            }
        }
    }

    private static void theHighestByteBecomesTheLowest() {
        for (int b : new int[] {0, 1, 127, 128, 255}) {
            int s = DOCUMENT.substitute(b);
            due("its highest byte becomes its lowest: r4 for the byte " + b,
                roundWords(new int[] {0, 0, 0, b << 24})[4], 0x62636300 | s);
            due("its lowest byte becomes the third: r4 for the byte " + b,
                roundWords(new int[] {0, 0, 0, b})[4], 0x62630063 | s << 8);
            due("the one below the highest becomes the highest: r4 for the byte " + b,
                roundWords(new int[] {0, 0, 0, b << 16})[4], s << 24 ^ 0x01636363);
        }
    }

    private static void thePowersGoOnAfterOneHundredAndTwentyEight() {
        int[] powers = {1, 2, 4, 8, 16, 32, 64, 128, 27, 54};
        for (int[] key : KEYS) {
            int[] r = roundWords(key);
            for (int q = 1; q <= 10; q++) {
                int turned = Integer.rotateLeft(r[4 * q - 1], 8);
                int replaced = 0;
                for (int k = 0; k < 32; k += 8) {
                    replaced |= DOCUMENT.substitute(turned >>> k & 255) << k;
                }
                due("(1, 2, 4 .. 128, 27, 54): what is added for r" + 4 * q + " of the key " + hex(key),
                    r[4 * q] ^ r[4 * q - 4] ^ replaced, powers[q - 1] << 24);
            }
        }
    }

    private static void theLastRoundWordIsFortyThree() {
        for (int[] key : KEYS) {
            due("r0 to r43 of the key " + hex(key), roundWords(key), DOCUMENT.roundWords(key));
        }
        due("r43 of the published key", roundWords(MIXED)[43], 0xb6630ca6);
        due("r43 of the key 0", roundWords(ZERO)[43], 0x6f8f188e);
    }

    private static void columnsAreTakenModuloFour() {
        Reading otherWay = new Reading() {
            int columnBefore(int c, int r) {
                return (c + 4 - r) % 4;
            }
        };
        Reading stopsAtTheLast = new Reading() {
            int columnBefore(int c, int r) {
                return Math.min(c + r, 3);
            }
        };
        Reading row0Too = new Reading() {
            int columnBefore(int c, int r) {
                return (c + r + 1) % 4;
            }
        };
        Reading notAtAll = new Reading() {
            int columnBefore(int c, int r) {
                return c;
            }
        };
        for (int j = 0; j < 16; j++) {
            int[] block = new int[4];
            block[j / 4] = 0x53 << 24 - 8 * (j % 4);
            encryptsAsTheDocument("column (c + r) mod 4, row " + j % 4 + " and column " + j / 4,
                COUNTED, block, otherWay, stopsAtTheLast, row0Too, notAtAll);
        }
    }

    private static void roundTenIsNotMixed() {
        Reading mixedToo = new Reading() {
            boolean mixed(int q) {
                return true;
            }
        };
        Reading nineNotMixed = new Reading() {
            boolean mixed(int q) {
                return q < 9;
            }
        };
        Reading oneNotMixed = new Reading() {
            boolean mixed(int q) {
                return q != 10 && q != 1;
            }
        };
        Reading nineRounds = new Reading() {
            int lastRound() {
                return 9;
            }
        };
        for (int[] key : KEYS) {
            for (int[] block : KEYS) {
                encryptsAsTheDocument("unless q is 10", key, block, mixedToo, nineNotMixed, nineRounds);
            }
        }
        // Mixing leaves a column of four equal bytes as it is, so these have none in round 1.
        encryptsAsTheDocument("unless q is 10, so in round 1 too", MIXED, COUNTED, oneNotMixed);
        encryptsAsTheDocument("unless q is 10, so in round 1 too", COUNTED, MIXED, oneNotMixed);
        due("unless q is 10: published", encrypted(MIXED, words("3243f6a8885a308d313198a2e0370734")),
            words("3925841d02dc09fbdc118597196a0b32"));
    }

    private static void decryptingIsWhatEncryptingTurnsIntoTheBlock() {
        for (int[] key : KEYS) {
            for (int[] block : KEYS) {
                String what = "key " + hex(key) + ", block " + hex(block);
                due("what decrypting answers encrypts to the block: " + what,
                    DOCUMENT.encrypt(key, decrypted(key, block)), block);
                BlockSealer x = with(key, block);
                x.decrypt();
                x.encrypt();
                due("decrypt, encrypt: " + what, present(x), block);
                x.encrypt();
                x.decrypt();
                due("encrypt, decrypt: " + what, present(x), block);
            }
        }
        for (int b = 0; b < 256; b++) {
            due("what decrypting answers encrypts to sixteen bytes " + b,
                DOCUMENT.encrypt(MIXED, decrypted(MIXED, blockOf(b))), blockOf(b));
        }
    }

    private static int[] hashOf(int[] key, int[] block) {
        BlockSealer x = with(key, block);
        x.absorb();
        return new int[] {x.hash(0), x.hash(1), x.hash(2), x.hash(3)};
    }

    private static int[] onlyBit(int n) {
        int[] block = new int[4];
        block[n / 32] = 1 << 31 - n % 32;
        return block;
    }

    // The last word of a key whose others are 0, what it encrypts 0 to, and that moved by one
    // place. Bit 0 and bit 127 are 0 0 in the first row, then 1 0 twice, 0 1 twice and 1 1 twice;
    // the bits 31, 63 and 95, which pass from word to word, are all 1 for 11, 03 and 19, and
    // all 0 for 0b.
    private static final String[][] MOVED = {
        {"00", "66e94bd4ef8a2c3b884cfa59ca342b2e", "3374a5ea77c5161dc4267d2ce51a1597"},
        {"04", "f5f39086646f8c05ed16efa4b617957c", "7af9c8433237c602f68b77d25b0bcabe"},
        {"11", "fd6e90fb6a3d10d38994974377a66a94", "7eb7487db51e8869c4ca4ba1bbd3354a"},
        {"07", "429c3c22dc979510833529cb64de09e3", "c04e1e116e4bca88419a94e5b26f04f1"},
        {"0b", "d6b7851cbd02b1e2b09a7e482b6c1d0d", "8a5bc28e5e8158f1584d3f2415b60e86"},
        {"03", "0d00c6457a47c6bb8cfe076f6e2b1e15", "e7806322bd23e35dc67f03b7b7158f0a"},
        {"19", "c87461874c0adae1389dd72d8bd2fe2f", "853a30c3a6056d709c4eeb96c5e97f17"},
    };

    private static int[] keyOf(String[] row) {
        return new int[] {0, 0, 0, Integer.parseInt(row[0], 16)};
    }

    private static void bitZeroIsTheHighestOfWordZero() {
        for (String[] row : MOVED) {
            due("bit 0 alone takes V before it is moved, key " + row[0], hashOf(keyOf(row), onlyBit(0)), words(row[1]));
        }
    }

    private static void bitZeroBecomesZero() {
        for (String[] row : MOVED) {
            int[] v = words(row[1]);
            int[] moved = hashOf(keyOf(row), onlyBit(1));
            boolean fell = (v[3] & 1) == 1;
            due("bit 0 becomes 0, before 0xE1000000 is added, key " + row[0], (moved[0] ^ (fell ? 0xE1000000 : 0)) >>> 31, 0);
        }
    }

    private static void bitsPassFromWordToWord() {
        for (String[] row : MOVED) {
            int[] v = words(row[1]);
            int[] moved = hashOf(keyOf(row), onlyBit(1));
            for (int c = 1; c < 4; c++) {
                due("bit " + 32 * c + " becomes what bit " + (32 * c - 1) + " was, key " + row[0], moved[c] >>> 31, v[c - 1] & 1);
            }
        }
    }

    private static void bit127AddsToWordZero() {
        for (String[] row : MOVED) {
            due("if bit 127 of V was 1 before: key " + row[0], hashOf(keyOf(row), onlyBit(1)), words(row[2]));
        }
    }

    private static void everyBitFrom0To127Counts() {
        for (String[] row : MOVED) {
            for (int n = 0; n < 128; n++) {
                due("for i from 0 to 127: bit " + n + " alone, key " + row[0],
                    hashOf(keyOf(row), onlyBit(n)), DOCUMENT.hashProduct(onlyBit(n), words(row[1])));
            }
            due("all 128 bits, key " + row[0], hashOf(keyOf(row), ONES), DOCUMENT.hashProduct(ONES, words(row[1])));
            due("no bit: Z stays 0, key " + row[0], hashOf(keyOf(row), ZERO), ZERO);
        }
    }

    public static void main(String[] args) {
        sentence("if that is above 255, its exclusive-or with 283",
            BlockSealerTermBoundaries::aboveTwoHundredAndFiftyFive);
        sentence("Every byte other than 0 has exactly one INVERSE",
            BlockSealerTermBoundaries::everyOtherByteHasOneInverse);
        sentence("the inverse of 0 is taken as 0",
            BlockSealerTermBoundaries::inverseOfZeroIsZero);
        sentence("numbers of bits taken modulo 8",
            BlockSealerTermBoundaries::bitNumbersAreTakenModuloEight);
        sentence("replace every byte by S of it",
            BlockSealerTermBoundaries::everyByteInEveryPlace);
        sentence("byte 0 of a word being the highest eight bits, byte 3 the lowest",
            BlockSealerTermBoundaries::byteZeroIsTheHighest);
        sentence("r0 to r3 are the key",
            BlockSealerTermBoundaries::theFirstFourRoundWordsAreTheKey);
        sentence("if i is a multiple of 4",
            BlockSealerTermBoundaries::onlyMultiplesOfFourAreReplaced);
        sentence("its highest byte becomes its lowest",
            BlockSealerTermBoundaries::theHighestByteBecomesTheLowest);
        sentence("(1, 2, 4 .. 128, 27, 54)",
            BlockSealerTermBoundaries::thePowersGoOnAfterOneHundredAndTwentyEight);
        sentence("For i from 4 to 43",
            BlockSealerTermBoundaries::theLastRoundWordIsFortyThree);
        sentence("column (c + r) mod 4",
            BlockSealerTermBoundaries::columnsAreTakenModuloFour);
        sentence("unless q is 10",
            BlockSealerTermBoundaries::roundTenIsNotMixed);
        sentence("the block that encrypting turns into the given one",
            BlockSealerTermBoundaries::decryptingIsWhatEncryptingTurnsIntoTheBlock);
        sentence("bit 0 being the highest bit of word 0, bit 127 the lowest of word 3",
            BlockSealerTermBoundaries::bitZeroIsTheHighestOfWordZero);
        sentence("bit 0 becomes 0",
            BlockSealerTermBoundaries::bitZeroBecomesZero);
        sentence("bit i+1 becomes what bit i was",
            BlockSealerTermBoundaries::bitsPassFromWordToWord);
        sentence("if bit 127 of V was 1 before, word 0 is exclusive-ored with 0xE1000000",
            BlockSealerTermBoundaries::bit127AddsToWordZero);
        sentence("for i from 0 to 127: if bit i of X is 1",
            BlockSealerTermBoundaries::everyBitFrom0To127Counts);
        System.out.println(wrong == 0 ? "all answers are as due" : wrong + " answers are not as due");
        if (wrong != 0) {
            System.exit(1);
        }
    }
}
