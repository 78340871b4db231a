import java.util.Arrays;

/** Promise by promise: ordinary inputs, the edges that the document names, and wrong inputs. */
public final class BlockSealerPromises {
    private static int wrong = 0;

    private static void due(String what, int got, int want) {
        if (got != want) {
            wrong++;
            System.out.println(what + " answered " + got + ", due is " + want);
        }
    }

    private static void dueBlock(String what, BlockSealer x, int... want) {
        for (int i = 0; i < 4; i++) {
            due(what + ": word(" + i + ")", x.word(i), want[i]);
        }
    }

    private static void dueHash(String what, BlockSealer x, int... want) {
        for (int i = 0; i < 4; i++) {
            due(what + ": hash(" + i + ")", x.hash(i), want[i]);
        }
    }

    private static void dueRoundKey(String what, BlockSealer x, int q, int... want) {
        for (int c = 0; c < 4; c++) {
            due(what + ": roundKey(" + q + ", " + c + ")", x.roundKey(q, c), want[c]);
        }
    }

    private static int[] words(String hex) {
        int[] w = new int[hex.length() / 8];
        for (int i = 0; i < w.length; i++) {
            w[i] = Integer.parseUnsignedInt(hex.substring(8 * i, 8 * i + 8), 16);
        }
        return w;
    }

    private static void key(BlockSealer x, String hex) {
        int[] w = words(hex);
        x.key(w[0], w[1], w[2], w[3]);
    }

    private static void block(BlockSealer x, String hex) {
        int[] w = words(hex);
        x.block(w[0], w[1], w[2], w[3]);
    }

    private static final String HASHED = "66e94bd4ef8a2c3b884cfa59ca342b2e";

    // With a hash other than 0, a call that wrongly clears it is seen.
    private static BlockSealer hashed() {
        BlockSealer x = new BlockSealer();
        x.block(Integer.MIN_VALUE, 0, 0, 0);
        x.absorb();
        x.block(0, 0, 0, 0);
        return x;
    }

    private static void promise1NewObject() {
        BlockSealer x = new BlockSealer();
        dueBlock("1 new", x, 0, 0, 0, 0);
        dueHash("1 new", x, 0, 0, 0, 0);
        dueRoundKey("1 new", x, 0, 0, 0, 0, 0);
        dueRoundKey("1 new", x, 1, words("62636363626363636263636362636363"));
        dueRoundKey("1 new", x, 10, words("b4ef5bcb3e92e21123e951cf6f8f188e"));
        x.encrypt();
        dueBlock("1 new, encrypted", x, words("66e94bd4ef8a2c3b884cfa59ca342b2e"));
        BlockSealer y = new BlockSealer();
        dueBlock("1 second object", y, 0, 0, 0, 0);
        y.decrypt();
        dueBlock("1 new, decrypted", y, words("140f0f1011b5223d79587717ffd9ec3a"));
        dueBlock("1 first object beside a second", x, words("66e94bd4ef8a2c3b884cfa59ca342b2e"));
    }

    private static void promise2Key() {
        BlockSealer x = new BlockSealer();
        x.block(1, 2, 3, 4);
        x.absorb();
        int[] hash = {x.hash(0), x.hash(1), x.hash(2), x.hash(3)};
        key(x, "2b7e151628aed2a6abf7158809cf4f3c");
        dueRoundKey("2 key", x, 0, words("2b7e151628aed2a6abf7158809cf4f3c"));
        dueRoundKey("2 key", x, 10, words("d014f9a8c9ee2589e13f0cc8b6630ca6"));
        dueBlock("2 the block stays", x, 1, 2, 3, 4);
        dueHash("2 the hash stays", x, hash);
        x.key(-1, Integer.MIN_VALUE, Integer.MAX_VALUE, 0);
        dueRoundKey("2 key of edges", x, 0, -1, Integer.MIN_VALUE, Integer.MAX_VALUE, 0);
        x.key(0, 0, 0, 0);
        dueRoundKey("2 key of 0 after another", x, 1, words("62636363626363636263636362636363"));
        x.block(0, 0, 0, 0);
        x.encrypt();
        dueBlock("2 key of 0 after another", x, words("66e94bd4ef8a2c3b884cfa59ca342b2e"));
    }

    private static void promise3Block() {
        BlockSealer x = hashed();
        x.block(5, 6, 7, 8);
        x.block(-1, Integer.MIN_VALUE, Integer.MAX_VALUE, 0x01020304);
        dueBlock("3 block", x, -1, Integer.MIN_VALUE, Integer.MAX_VALUE, 0x01020304);
        dueHash("3 the hash stays", x, words(HASHED));
        dueRoundKey("3 the key stays", x, 0, 0, 0, 0, 0);
    }

    private static void promise4Mix() {
        BlockSealer x = hashed();
        x.mix(1, 2, 3, 4);
        dueBlock("4 mix with 0", x, 1, 2, 3, 4);
        x.mix(-1, -1, -1, -1);
        dueBlock("4 mix with all bits", x, -2, -3, -4, -5);
        x.mix(-1, -1, -1, -1);
        dueBlock("4 mix with all bits again", x, 1, 2, 3, 4);
        x.mix(-1, Integer.MIN_VALUE, Integer.MAX_VALUE, 4);
        dueBlock("4 mix", x, -2, Integer.MIN_VALUE + 2, Integer.MAX_VALUE - 3, 0);
        x.mix(0, 0, 0, 0);
        dueBlock("4 mix by 0", x, -2, Integer.MIN_VALUE + 2, Integer.MAX_VALUE - 3, 0);
        dueHash("4 the hash stays", x, words(HASHED));
        dueRoundKey("4 the key stays", x, 0, 0, 0, 0, 0);
    }

    // The examples that the cipher was published with.
    private static final String[][] CIPHER = {
        {"2b7e151628aed2a6abf7158809cf4f3c", "3243f6a8885a308d313198a2e0370734", "3925841d02dc09fbdc118597196a0b32"},
        {"000102030405060708090a0b0c0d0e0f", "00112233445566778899aabbccddeeff", "69c4e0d86a7b0430d8cdb78070b4c55a"},
        {"2b7e151628aed2a6abf7158809cf4f3c", "6bc1bee22e409f96e93d7e117393172a", "3ad77bb40d7a3660a89ecaf32466ef97"},
        {"00000000000000000000000000000000", "80000000000000000000000000000000", "3ad78e726c1ec02b7ebfe92b23d9ec34"},
        {"00000000000000000000000000000000", "ffffffffffffffffffffffffffffffff", "3f5b8cc9ea855a0afa7347d23e8d664e"},
        {"ffffffffffffffffffffffffffffffff", "00000000000000000000000000000000", "a1f6258c877d5fcd8964484538bfc92c"},
    };

    private static void promise5Encrypt() {
        for (String[] row : CIPHER) {
            BlockSealer x = hashed();
            key(x, row[0]);
            block(x, row[1]);
            x.encrypt();
            dueBlock("5 encrypt " + row[1], x, words(row[2]));
            dueHash("5 the hash stays", x, words(HASHED));
            dueRoundKey("5 the key stays", x, 0, words(row[0]));
        }
    }

    private static void promise6Decrypt() {
        for (String[] row : CIPHER) {
            BlockSealer x = hashed();
            key(x, row[0]);
            block(x, row[2]);
            x.decrypt();
            dueBlock("6 decrypt " + row[2], x, words(row[1]));
            dueHash("6 the hash stays", x, words(HASHED));
            dueRoundKey("6 the key stays", x, 0, words(row[0]));
            x.decrypt();
            x.encrypt();
            dueBlock("6 decrypt, encrypt", x, words(row[1]));
        }
        BlockSealer x = new BlockSealer();
        // Every byte once, so that every entry of the substitution is met in some round.
        for (int b = 0; b < 256; b += 16) {
            int[] w = new int[4];
            for (int j = 0; j < 16; j++) {
                w[j / 4] = w[j / 4] << 8 | b + j;
            }
            x.block(w[0], w[1], w[2], w[3]);
            x.encrypt();
            x.decrypt();
            dueBlock("6 encrypt, decrypt of the bytes from " + b, x, w);
        }
    }

    private static void promise7Next() {
        BlockSealer x = hashed();
        x.next();
        dueBlock("7 next of 0", x, 0, 0, 0, 1);
        x.block(-1, -1, -1, -1);
        x.next();
        dueBlock("7 next wraps", x, -1, -1, -1, 0);
        x.block(1, 2, 3, Integer.MAX_VALUE);
        x.next();
        dueBlock("7 next over the greatest int", x, 1, 2, 3, Integer.MIN_VALUE);
        dueHash("7 the hash stays", x, words(HASHED));
    }

    private static final int[] INDEXES = {0, 1, 2, 3, 4, 5, 6, 7, 15, -1, -2, -3, -4, -5, 1 << 30,
        Integer.MAX_VALUE, Integer.MAX_VALUE - 1, Integer.MIN_VALUE, Integer.MIN_VALUE + 1};

    private static void promise8Word() {
        BlockSealer x = new BlockSealer();
        int[] w = {11, -22, 33, -44};
        x.block(w[0], w[1], w[2], w[3]);
        for (int index : INDEXES) {
            due("8 word(" + index + ")", x.word(index), w[index & 3]);
        }
        dueBlock("8 asking changes nothing", x, w);
    }

    private static void promise9Absorb() {
        // The second published example of the mode: one block of text, then the lengths.
        BlockSealer x = new BlockSealer();
        block(x, "0388dace60b6a392f328c2b971b2fe78");
        x.absorb();
        dueHash("9 absorb", x, words("5e2ec746917062882c85b0685353deb7"));
        dueBlock("9 the block stays", x, words("0388dace60b6a392f328c2b971b2fe78"));
        dueRoundKey("9 the key stays", x, 0, 0, 0, 0, 0);
        block(x, "00000000000000000000000000000080");
        x.absorb();
        dueHash("9 absorb twice", x, words("f38cbb1ad69223dcc3457ae5b6b0f885"));

        BlockSealer one = new BlockSealer();
        // Bit 0 alone is the 1 of the product, so the other factor is answered.
        one.block(Integer.MIN_VALUE, 0, 0, 0);
        one.absorb();
        dueHash("9 product with 1", one, words("66e94bd4ef8a2c3b884cfa59ca342b2e"));
        one.restart();
        one.block(0, 0, 0, 0);
        one.absorb();
        dueHash("9 product with 0", one, 0, 0, 0, 0);

        BlockSealer changed = new BlockSealer();
        changed.block(Integer.MIN_VALUE, 0, 0, 0);
        changed.absorb();
        changed.restart();
        key(changed, "ffffffffffffffffffffffffffffffff");
        changed.absorb();
        dueHash("9 the key of now counts", changed, words("a1f6258c877d5fcd8964484538bfc92c"));

        BlockSealer same = new BlockSealer();
        same.block(Integer.MIN_VALUE, 0, 0, 0);
        same.absorb();
        block(same, "66e94bd4ef8a2c3b884cfa59ca342b2e");
        same.absorb();
        dueHash("9 hash and block that cancel out", same, 0, 0, 0, 0);
    }

    private static void promise10Restart() {
        BlockSealer x = new BlockSealer();
        key(x, "000102030405060708090a0b0c0d0e0f");
        x.block(1, 2, 3, 4);
        x.absorb();
        int[] first = {x.hash(0), x.hash(1), x.hash(2), x.hash(3)};
        x.absorb();
        x.restart();
        dueHash("10 restart", x, 0, 0, 0, 0);
        dueBlock("10 the block stays", x, 1, 2, 3, 4);
        dueRoundKey("10 the key stays", x, 0, words("000102030405060708090a0b0c0d0e0f"));
        x.absorb();
        dueHash("10 as from the start", x, first);
    }

    private static void promise11Hash() {
        BlockSealer x = new BlockSealer();
        x.block(Integer.MIN_VALUE, 0, 0, 0);
        x.absorb();
        int[] want = words("66e94bd4ef8a2c3b884cfa59ca342b2e");
        for (int index : INDEXES) {
            due("11 hash(" + index + ")", x.hash(index), want[index & 3]);
        }
        dueHash("11 asking changes nothing", x, want);
    }

    // The published expansion of the key 2b7e1516 28aed2a6 abf71588 09cf4f3c.
    private static final String EXPANDED = "2b7e151628aed2a6abf7158809cf4f3c"
        + "a0fafe1788542cb123a339392a6c7605" + "f2c295f27a96b9435935807a7359f67f"
        + "3d80477d4716fe3e1e237e446d7a883b" + "ef44a541a8525b7fb671253bdb0bad00"
        + "d4d1c6f87c839d87caf2b8bc11f915bc" + "6d88a37a110b3efddbf98641ca0093fd"
        + "4e54f70e5f5fc9f384a64fb24ea6dc4f" + "ead27321b58dbad2312bf5607f8d292f"
        + "ac7766f319fadc2128d12941575c006e" + "d014f9a8c9ee2589e13f0cc8b6630ca6";

    private static void promise12RoundKey() {
        BlockSealer x = hashed();
        key(x, EXPANDED.substring(0, 32));
        int[] r = words(EXPANDED);
        for (int q = -34; q <= 34; q++) {
            dueRoundKey("12", x, q, Arrays.copyOfRange(r, 4 * Math.floorMod(q, 11), 4 * Math.floorMod(q, 11) + 4));
        }
        int[] far = {Integer.MAX_VALUE, Integer.MIN_VALUE, Integer.MIN_VALUE + 1, 1 << 30, -(1 << 30), 1 << 29};
        for (int q : far) {
            for (int c : INDEXES) {
                due("12 roundKey(" + q + ", " + c + ")", x.roundKey(q, c), r[4 * Math.floorMod(q, 11) + (c & 3)]);
            }
        }
        dueBlock("12 the block stays", x, 0, 0, 0, 0);
        dueHash("12 the hash stays", x, words(HASHED));
    }

    public static void main(String[] args) {
        promise1NewObject();
        promise2Key();
        promise3Block();
        promise4Mix();
        promise5Encrypt();
        promise6Decrypt();
        promise7Next();
        promise8Word();
        promise9Absorb();
        promise10Restart();
        promise11Hash();
        promise12RoundKey();
        System.out.println(wrong == 0 ? "all answers are as due" : wrong + " answers are not as due");
        if (wrong != 0) {
            System.exit(1);
        }
    }
}
