import java.nio.ByteBuffer;
import java.security.GeneralSecurityException;
import java.util.Arrays;
import javax.crypto.Cipher;
import javax.crypto.spec.SecretKeySpec;

/**
 * The sentences of 'What it is' and of the promises that name a boundary, each
 * with a test of its own. What is due is written out, or comes from the Java
 * library's cipher.
 */
public final class BlockSealerCallBoundaries {
    private static final int CALLS = 512;
    private static final int MIN = Integer.MIN_VALUE;
    private static final int MAX = Integer.MAX_VALUE;
    private static final int SHOWN = 10;
    private static int wrong = 0;
    private static int wrongBefore = 0;

    private static void hold(boolean held, String what) {
        if (!held) {
            wrong++;
            if (wrong - wrongBefore <= SHOWN) {
                System.out.println(what);
            }
        }
    }

    /** Runs the test of one sentence, which is given in the document's words. */
    private static void sentence(String words, Runnable test) {
        wrongBefore = wrong;
        test.run();
        if (wrong != wrongBefore) {
            System.out.println("BROKEN: '" + words + "', " + (wrong - wrongBefore) + " answers are not as due");
        }
    }

    private static void due(String what, int got, int want) {
        hold(got == want, what + " answered " + got + ", due is " + want);
    }

    private static void due(String what, int[] got, int... want) {
        hold(Arrays.equals(got, want), what + " answered " + Arrays.toString(got) + ", due is " + Arrays.toString(want));
    }

    private static int[] block(BlockSealer x) {
        return new int[] {x.word(0), x.word(1), x.word(2), x.word(3)};
    }

    private static int[] hash(BlockSealer x) {
        return new int[] {x.hash(0), x.hash(1), x.hash(2), x.hash(3)};
    }

    private static int[] key(BlockSealer x) {
        return new int[] {x.roundKey(0, 0), x.roundKey(0, 1), x.roundKey(0, 2), x.roundKey(0, 3)};
    }

    private static int[] cipher(int mode, int[] key, int[] block, int times) {
        byte[] b = bytes(block);
        try {
            Cipher c = Cipher.getInstance("AES/ECB/NoPadding");
            c.init(mode, new SecretKeySpec(bytes(key), "AES"));
            for (int n = 0; n < times; n++) {
                b = c.doFinal(b);
            }
        } catch (GeneralSecurityException e) {
            throw new IllegalStateException(e);
        }
        int[] w = new int[4];
        ByteBuffer.wrap(b).asIntBuffer().get(w);
        return w;
    }

    private static byte[] bytes(int[] words) {
        ByteBuffer b = ByteBuffer.allocate(4 * words.length);
        b.asIntBuffer().put(words);
        return b.array();
    }

    // What the key 0 encrypts the block of four words 0 to.
    private static final int[] ZERO_ENCRYPTED = {0x66e94bd4, 0xef8a2c3b, 0x884cfa59, 0xca342b2e};
    // The same for the key of all bits.
    private static final int[] ZERO_BY_ONES = {0xa1f6258c, 0x877d5fcd, 0x89644845, 0x38bfc92c};
    // r40 to r43 of the key 0.
    private static final int[] LAST_OF_ZERO = {0xb4ef5bcb, 0x3e92e211, 0x23e951cf, 0x6f8f188e};

    /** A fresh object that has had the given call 511 times, so that the next one is the last that is promised. */
    private static BlockSealer before512(String call) {
        BlockSealer x = new BlockSealer();
        for (int n = 1; n < CALLS; n++) {
            switch (call) {
                case "key" -> x.key(n, -n, n << 16, ~n);
                case "block" -> x.block(n, -n, n << 16, ~n);
                case "mix" -> x.mix(n, -n, n << 16, ~n);
                case "encrypt" -> x.encrypt();
                case "decrypt" -> x.decrypt();
                case "next" -> x.next();
                case "word" -> x.word(n);
                case "absorb" -> x.absorb();
                case "restart" -> x.restart();
                case "hash" -> x.hash(n);
                default -> x.roundKey(n, n);
            }
        }
        return x;
    }

    private static void call512IsStillAnswered() {
        int[] zero = new int[4];
        int n = CALLS - 1;
        int[] encrypted = cipher(Cipher.ENCRYPT_MODE, zero, zero, n);
        int[] decrypted = cipher(Cipher.DECRYPT_MODE, zero, zero, n);
        int[] mixed = new int[4];
        for (int k = 1; k <= n; k++) {
            mixed[0] ^= k;
            mixed[1] ^= -k;
            mixed[2] ^= k << 16;
            mixed[3] ^= ~k;
        }
        for (int c = 0; c < 4; c++) {
            due("call 512, after key: roundKey(0, " + c + ")",
                before512("key").roundKey(0, c), new int[] {n, -n, n << 16, ~n}[c]);
            due("call 512, after block: word(" + c + ")", before512("block").word(c), new int[] {n, -n, n << 16, ~n}[c]);
            due("call 512, after mix: word(" + c + ")", before512("mix").word(c), mixed[c]);
            due("call 512, after encrypt: word(" + c + ")", before512("encrypt").word(c), encrypted[c]);
            due("call 512, after decrypt: word(" + c + ")", before512("decrypt").word(c), decrypted[c]);
            due("call 512, after next: word(" + c + ")", before512("next").word(c), c == 3 ? n : 0);
            due("call 512, after word: roundKey(10, " + c + ")", before512("word").roundKey(10, c), LAST_OF_ZERO[c]);
            due("call 512, after absorb of 0: hash(" + c + ")", before512("absorb").hash(c), 0);
            due("call 512, after restart: hash(" + c + ")", before512("restart").hash(c), 0);
            due("call 512, after hash: word(" + c + ")", before512("hash").word(c), 0);
            due("call 512, after roundKey: hash(" + c + ")", before512("roundKey").hash(c), 0);
        }
    }

    private static void call512AfterManyProducts() {
        int[] h = new int[4];
        for (int n = 0; n < 510; n++) {
            // A fresh object for every product has no run of calls behind it.
            BlockSealer fresh = new BlockSealer();
            fresh.block(h[0] ^ 1, h[1] ^ 2, h[2] ^ 3, h[3] ^ 4);
            fresh.absorb();
            h = hash(fresh);
        }
        for (int c = 0; c < 4; c++) {
            BlockSealer x = new BlockSealer();
            x.block(1, 2, 3, 4);
            for (int n = 0; n < 510; n++) {
                x.absorb();
            }
            due("call 512, after block and 510 times absorb: hash(" + c + ")", x.hash(c), h[c]);
        }
    }

    /** What later calls answer is free, but LANGUAGE.md lets no call throw or fail to end. */
    private static void callsAfter512DoNotThrow() {
        String[] calls = {"key", "block", "mix", "encrypt", "decrypt", "next", "word", "absorb", "restart", "hash", "roundKey"};
        for (String call : calls) {
            BlockSealer x = before512(call);
            for (int n = 0; n < 100; n++) {
                x.key(MIN, MAX, -1, n);
                x.block(MAX, MIN, n, -1);
                x.mix(-1, n, MIN, MAX);
                x.encrypt();
                x.decrypt();
                x.next();
                x.absorb();
                x.word(MIN + n);
                x.hash(MAX - n);
                x.roundKey(MIN + n, MAX - n);
                x.roundKey(MAX - n, MIN + n);
                x.restart();
            }
        }
    }

    private static void newObjectIsZero() {
        due("1 the key of a new object", key(new BlockSealer()), 0, 0, 0, 0);
        due("1 the present block of a new object", block(new BlockSealer()), 0, 0, 0, 0);
        due("1 the hash of a new object", hash(new BlockSealer()), 0, 0, 0, 0);
        for (int c = 0; c < 4; c++) {
            due("1 first call: word(" + c + ")", new BlockSealer().word(c), 0);
            due("1 first call: hash(" + c + ")", new BlockSealer().hash(c), 0);
            due("1 first call: roundKey(0, " + c + ")", new BlockSealer().roundKey(0, c), 0);
            due("1 first call: roundKey(10, " + c + ")", new BlockSealer().roundKey(10, c), LAST_OF_ZERO[c]);
        }
    }

    private static void newObjectCountsAsZeroForEveryCall() {
        int[] zero = new int[4];
        BlockSealer x = new BlockSealer();
        x.encrypt();
        due("1 encrypt first", block(x), ZERO_ENCRYPTED);
        x = new BlockSealer();
        x.decrypt();
        due("1 decrypt first", block(x), cipher(Cipher.DECRYPT_MODE, zero, zero, 1));
        x = new BlockSealer();
        x.next();
        due("1 next first", block(x), 0, 0, 0, 1);
        x = new BlockSealer();
        x.mix(1, -2, MIN, MAX);
        due("1 mix first", block(x), 1, -2, MIN, MAX);
        x = new BlockSealer();
        x.absorb();
        due("1 absorb first", hash(x), 0, 0, 0, 0);
        x = new BlockSealer();
        x.restart();
        due("1 restart first", hash(x), 0, 0, 0, 0);
        x = new BlockSealer();
        x.block(MIN, 0, 0, 0);
        x.absorb();
        due("1 the key 0 makes the factor", hash(x), ZERO_ENCRYPTED);
    }

    private static void newObjectBesideUsedOnes() {
        BlockSealer used = new BlockSealer();
        used.key(1, 2, 3, 4);
        used.block(5, 6, 7, 8);
        used.absorb();
        int[] before = hash(used);
        BlockSealer x = new BlockSealer();
        due("1 the key of a new object beside a used one", key(x), 0, 0, 0, 0);
        due("1 the present block of a new object beside a used one", block(x), 0, 0, 0, 0);
        due("1 the hash of a new object beside a used one", hash(x), 0, 0, 0, 0);
        due("1 the key of the used one", key(used), 1, 2, 3, 4);
        due("1 the present block of the used one", block(used), 5, 6, 7, 8);
        due("1 the hash of the used one", hash(used), before);
    }

    private static final int[] EDGES = {0, 1, -1, MIN, MAX, 127, 128, 255, 256, 0x00ffffff, 0x01000000, 0x80808080};

    private static void keyTakesEveryWord() {
        BlockSealer x = new BlockSealer();
        x.block(MIN, 0, 0, 0);
        x.absorb();
        for (int w : EDGES) {
            x.key(w, ~w, w + 1, -w);
            due("2 the key that was set", key(x), w, ~w, w + 1, -w);
        }
        x.key(0, 0, 0, 0);
        due("2 the key set back to 0", key(x), 0, 0, 0, 0);
        due("2 the round keys set back to those of 0", x.roundKey(10, 3), LAST_OF_ZERO[3]);
        due("2 the present block stays", block(x), MIN, 0, 0, 0);
        due("2 the hash stays", hash(x), ZERO_ENCRYPTED);
    }

    private static void blockTakesEveryWord() {
        BlockSealer x = new BlockSealer();
        for (int w : EDGES) {
            x.block(w, ~w, w + 1, -w);
            due("3 the block that was set", block(x), w, ~w, w + 1, -w);
        }
        x.block(0, 0, 0, 0);
        due("3 the block set back to 0", block(x), 0, 0, 0, 0);
    }

    private static void mixIsExclusiveOrAtItsEdges() {
        BlockSealer x = new BlockSealer();
        for (int w : EDGES) {
            x.block(w, w, w, w);
            x.mix(0, -1, w, MIN);
            due("4 mix of " + w + " with 0, all bits, itself and the highest bit", block(x), w, ~w, 0, w + MIN);
        }
    }

    private static void nextWraps() {
        BlockSealer x = new BlockSealer();
        int[][] rows = {{-1, 0}, {MAX, MIN}, {0, 1}, {-2, -1}, {MIN, MIN + 1}, {255, 256}, {0xffff, 0x10000}, {0xffffff, 0x1000000}};
        for (int[] row : rows) {
            for (int other : new int[] {0, -1, MAX, MIN}) {
                x.block(other, other, other, row[0]);
                x.next();
                due("7 next of " + row[0] + " beside " + other, block(x), other, other, other, row[1]);
            }
        }
    }

    private static void nextGoesOnAfterTheWrap() {
        BlockSealer x = new BlockSealer();
        x.block(-1, -1, -1, -100);
        for (int n = 0; n < 200; n++) {
            x.next();
        }
        due("7 next 200 times from -100", block(x), -1, -1, -1, 100);
    }

    /** Every multiple of 2^24 with its neighbours: all the high bits that an index can have, below 0 too. */
    private static int[] indexes() {
        int[] list = new int[256 * 11];
        for (int n = 0; n < list.length; n++) {
            list[n] = (n / 11 << 24) + n % 11 - 5;
        }
        return list;
    }

    private static void wordTakesEveryIndex() {
        int[] want = {11, -22, 33, -44};
        BlockSealer x = null;
        int[] list = indexes();
        for (int n = 0; n < list.length; n++) {
            if (n % 500 == 0) {
                x = new BlockSealer();
                x.block(want[0], want[1], want[2], want[3]);
            }
            due("8 word(" + list[n] + ")", x.word(list[n]), want[list[n] & 3]);
        }
    }

    private static void wordBelowZero() {
        BlockSealer x = new BlockSealer();
        x.block(11, -22, 33, -44);
        due("8 word from -1 down", new int[] {x.word(-1), x.word(-2), x.word(-3), x.word(-4), x.word(-5)}, -44, 33, -22, 11, -44);
        due("8 word from 4 up", new int[] {x.word(4), x.word(5), x.word(6), x.word(7), x.word(8)}, 11, -22, 33, -44, 11);
        due("8 word at the ends", new int[] {x.word(MIN), x.word(MIN + 1), x.word(MAX), x.word(MAX - 1)}, 11, -22, -44, 33);
    }

    private static void hashTakesEveryIndex() {
        BlockSealer x = null;
        int[] list = indexes();
        for (int n = 0; n < list.length; n++) {
            if (n % 500 == 0) {
                x = new BlockSealer();
                x.block(MIN, 0, 0, 0);
                x.absorb();
            }
            due("11 hash(" + list[n] + ")", x.hash(list[n]), ZERO_ENCRYPTED[list[n] & 3]);
        }
    }

    private static void hashBelowZero() {
        BlockSealer x = new BlockSealer();
        x.block(MIN, 0, 0, 0);
        x.absorb();
        int[] h = ZERO_ENCRYPTED;
        due("11 hash from -1 down", new int[] {x.hash(-1), x.hash(-2), x.hash(-3), x.hash(-4), x.hash(-5)}, h[3], h[2], h[1], h[0], h[3]);
        due("11 hash from 4 up", new int[] {x.hash(4), x.hash(5), x.hash(6), x.hash(7), x.hash(8)}, h[0], h[1], h[2], h[3], h[0]);
        due("11 hash at the ends", new int[] {x.hash(MIN), x.hash(MIN + 1), x.hash(MAX), x.hash(MAX - 1)}, h[0], h[1], h[3], h[2]);
    }

    // Bit 0 alone is the 1 of the hash product, so absorbing it answers the other factor.
    private static void absorbEncryptsTheBlockOfZeroWords() {
        BlockSealer x = new BlockSealer();
        x.key(-1, -1, -1, -1);
        x.block(MIN, 0, 0, 0);
        x.absorb();
        due("9 the factor is the block of words 0, encrypted", hash(x), ZERO_BY_ONES);
        due("9 the present block stays", block(x), MIN, 0, 0, 0);
        due("9 the key stays", key(x), -1, -1, -1, -1);
    }

    private static void absorbTakesTheKeyThatStands() {
        BlockSealer x = new BlockSealer();
        x.block(MIN, 0, 0, 0);
        x.absorb();
        x.key(-1, -1, -1, -1);
        due("9 the hash stays when the key changes", hash(x), ZERO_ENCRYPTED);
        // The hash mixed in cancels out, which leaves bit 0 for the product with the new factor.
        x.mix(ZERO_ENCRYPTED[0], ZERO_ENCRYPTED[1], ZERO_ENCRYPTED[2], ZERO_ENCRYPTED[3]);
        x.absorb();
        due("9 the key that stands at the call", hash(x), ZERO_BY_ONES);
        x.key(0, 0, 0, 0);
        x.restart();
        x.block(MIN, 0, 0, 0);
        x.absorb();
        due("9 the key of before again", hash(x), ZERO_ENCRYPTED);
    }

    private static void absorbOfWhatTheHashHolds() {
        BlockSealer x = new BlockSealer();
        x.block(MIN, 0, 0, 0);
        x.absorb();
        x.block(ZERO_ENCRYPTED[0], ZERO_ENCRYPTED[1], ZERO_ENCRYPTED[2], ZERO_ENCRYPTED[3]);
        x.absorb();
        due("9 hash and block cancel out", hash(x), 0, 0, 0, 0);
    }

    private static void restartMakesTheHashZero() {
        BlockSealer x = new BlockSealer();
        x.restart();
        due("10 restart of 0", hash(x), 0, 0, 0, 0);
        x.key(-1, -1, -1, -1);
        x.block(MIN, 0, 0, 0);
        x.absorb();
        x.absorb();
        x.restart();
        due("10 restart", hash(x), 0, 0, 0, 0);
        x.restart();
        due("10 restart twice", hash(x), 0, 0, 0, 0);
        due("10 the present block stays", block(x), MIN, 0, 0, 0);
        due("10 the key stays", key(x), -1, -1, -1, -1);
        x.absorb();
        due("10 absorb after restart", hash(x), ZERO_BY_ONES);
    }

    // q and the number from 0 to 10 that it stands for; 2^31 is 2 more than a multiple of 11.
    private static final int[][] NUMBERS = {{0, 0}, {10, 10}, {11, 0}, {12, 1}, {21, 10}, {22, 0}, {-1, 10}, {-10, 1}, {-11, 0},
        {-12, 10}, {-21, 1}, {-22, 0}, {-23, 10}, {MAX, 1}, {MAX - 1, 0}, {MAX - 2, 10}, {MIN, 9}, {MIN + 1, 10}, {MIN + 2, 0},
        {1 << 30, 1}, {-(1 << 30), 10}, {1 << 29, 6}, {-(1 << 29), 5}};

    private static void roundKeyTakesEveryNumber() {
        int[] word0 = new int[11];
        BlockSealer x = new BlockSealer();
        x.key(0x2b7e1516, 0x28aed2a6, 0xabf71588, 0x09cf4f3c);
        int[] published = {0x2b7e1516, 0xa0fafe17, 0xf2c295f2, 0x3d80477d, 0xef44a541, 0xd4d1c6f8,
            0x6d88a37a, 0x4e54f70e, 0xead27321, 0xac7766f3, 0xd014f9a8};
        for (int q = 0; q < 11; q++) {
            word0[q] = x.roundKey(q, 0);
        }
        due("12 word 0 of the eleven round keys", word0, published);
        for (int[] row : NUMBERS) {
            due("12 roundKey(" + row[0] + ", 0), q mod 11 from 0 up", x.roundKey(row[0], 0), published[row[1]]);
        }
        for (int q : indexes()) {
            BlockSealer y = new BlockSealer();
            y.key(0x2b7e1516, 0x28aed2a6, 0xabf71588, 0x09cf4f3c);
            due("12 roundKey(" + q + ", 0)", y.roundKey(q, 0), published[Math.floorMod(q, 11)]);
        }
    }

    private static void roundKeyTakesEveryColumn() {
        for (int[] row : new int[][] {{10, 10}, {-1, 10}, {MAX - 2, 10}, {MIN + 1, 10}}) {
            BlockSealer x = null;
            int[] list = indexes();
            for (int n = 0; n < list.length; n++) {
                if (n % 500 == 0) {
                    x = new BlockSealer();
                }
                due("12 roundKey(" + row[0] + ", " + list[n] + "), c & 3", x.roundKey(row[0], list[n]), LAST_OF_ZERO[list[n] & 3]);
            }
        }
        BlockSealer x = new BlockSealer();
        due("12 c below 0", new int[] {x.roundKey(10, -4), x.roundKey(10, -3), x.roundKey(10, -2), x.roundKey(10, -1)}, LAST_OF_ZERO);
        due("12 c above 3", new int[] {x.roundKey(10, 4), x.roundKey(10, 5), x.roundKey(10, 6), x.roundKey(10, 7)}, LAST_OF_ZERO);
        due("12 c at the ends", new int[] {x.roundKey(10, MIN), x.roundKey(10, MIN + 1), x.roundKey(10, MAX - 1), x.roundKey(10, MAX)}, LAST_OF_ZERO);
    }

    public static void main(String[] args) {
        sentence("An object is used for at most 512 calls",
            BlockSealerCallBoundaries::call512IsStillAnswered);
        sentence("An object is used for at most 512 calls, most of them absorb",
            BlockSealerCallBoundaries::call512AfterManyProducts);
        sentence("what later calls answer is free (but no call may ever throw)",
            BlockSealerCallBoundaries::callsAfter512DoNotThrow);
        sentence("1: Key, present block and hash are 0",
            BlockSealerCallBoundaries::newObjectIsZero);
        sentence("1: Key, present block and hash are 0, for every other call too",
            BlockSealerCallBoundaries::newObjectCountsAsZeroForEveryCall);
        sentence("1: A new object, beside one that is used",
            BlockSealerCallBoundaries::newObjectBesideUsedOnes);
        sentence("2: Sets the key",
            BlockSealerCallBoundaries::keyTakesEveryWord);
        sentence("3: Sets the present block",
            BlockSealerCallBoundaries::blockTakesEveryWord);
        sentence("4: becomes its exclusive-or with the words",
            BlockSealerCallBoundaries::mixIsExclusiveOrAtItsEdges);
        sentence("7: wrapping; the other words stay",
            BlockSealerCallBoundaries::nextWraps);
        sentence("7: wrapping, and on from 0",
            BlockSealerCallBoundaries::nextGoesOnAfterTheWrap);
        sentence("8: The word index & 3, for every int index",
            BlockSealerCallBoundaries::wordTakesEveryIndex);
        sentence("8: The word index & 3, below 0, above 3 and at the ends",
            BlockSealerCallBoundaries::wordBelowZero);
        sentence("9: the block that the key encrypts the block of four words 0 to",
            BlockSealerCallBoundaries::absorbEncryptsTheBlockOfZeroWords);
        sentence("9: the key, as it stands at the call",
            BlockSealerCallBoundaries::absorbTakesTheKeyThatStands);
        sentence("9: the hash exclusive-or the present block, where that is 0",
            BlockSealerCallBoundaries::absorbOfWhatTheHashHolds);
        sentence("10: The hash becomes 0",
            BlockSealerCallBoundaries::restartMakesTheHashZero);
        sentence("11: The word index & 3, for every int index",
            BlockSealerCallBoundaries::hashTakesEveryIndex);
        sentence("11: The word index & 3, below 0, above 3 and at the ends",
            BlockSealerCallBoundaries::hashBelowZero);
        sentence("12: q mod 11, from 0 up",
            BlockSealerCallBoundaries::roundKeyTakesEveryNumber);
        sentence("12: c & 3",
            BlockSealerCallBoundaries::roundKeyTakesEveryColumn);
        System.out.println(wrong == 0 ? "all answers are as due" : wrong + " answers are not as due");
        if (wrong != 0) {
            System.exit(1);
        }
    }
}
