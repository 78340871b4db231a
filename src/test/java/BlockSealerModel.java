import java.math.BigInteger;
import java.nio.ByteBuffer;
import java.util.Random;
import javax.crypto.Cipher;
import javax.crypto.spec.GCMParameterSpec;
import javax.crypto.spec.SecretKeySpec;

/**
 * Long runs of random calls, with a fixed seed, against a model that shares no
 * code with the class: the cipher is the Java library's, the hash product is
 * worked out over one big number, the round keys as the document words them.
 */
public final class BlockSealerModel {
    private static final int OBJECTS = 60;
    private static final int CALLS = 512;
    private static int wrong = 0;

    private final int[] key = new int[4];
    private int[] block = new int[4];
    private int[] hash = new int[4];

    private static byte[] bytes(int[] w) {
        ByteBuffer b = ByteBuffer.allocate(4 * w.length);
        for (int v : w) {
            b.putInt(v);
        }
        return b.array();
    }

    private static int[] words(byte[] bytes) {
        int[] w = new int[bytes.length / 4];
        ByteBuffer.wrap(bytes).asIntBuffer().get(w);
        return w;
    }

    private int[] cipher(int mode, int[] input) throws Exception {
        Cipher c = Cipher.getInstance("AES/ECB/NoPadding");
        c.init(mode, new SecretKeySpec(bytes(key), "AES"));
        return words(c.doFinal(bytes(input)));
    }

    private static int[] product(int[] x, int[] y) {
        BigInteger v = new BigInteger(1, bytes(y));
        BigInteger z = BigInteger.ZERO;
        BigInteger reduction = BigInteger.valueOf(0xE1).shiftLeft(120);
        for (int i = 0; i < 128; i++) {
            if ((x[i / 32] & 1 << 31 - i % 32) != 0) {
                z = z.xor(v);
            }
            v = v.testBit(0) ? v.shiftRight(1).xor(reduction) : v.shiftRight(1);
        }
        int[] result = new int[4];
        for (int c = 0; c < 4; c++) {
            result[c] = z.shiftRight(96 - 32 * c).intValue();
        }
        return result;
    }

    private static int times(int x, int y) {
        int z = 0;
        for (int k = 0; k < 8; k++) {
            z ^= (y >> k & 1) * x;
            x = 2 * x > 255 ? 2 * x ^ 283 : 2 * x;
        }
        return z;
    }

    private static int substitute(int x) {
        int v = 0;
        for (int y = 1; y < 256; y++) {
            if (times(x, y) == 1) {
                v = y;
            }
        }
        int s = 0;
        for (int k = 0; k < 8; k++) {
            int bit = v >> k ^ v >> (k + 4) % 8 ^ v >> (k + 5) % 8 ^ v >> (k + 6) % 8 ^ v >> (k + 7) % 8 ^ 99 >> k;
            s |= (bit & 1) << k;
        }
        return s;
    }

    private int roundKey(int q, int c) {
        int[] r = new int[44];
        System.arraycopy(key, 0, r, 0, 4);
        int power = 1;
        for (int i = 4; i < 44; i++) {
            int t = r[i - 1];
            if (i % 4 == 0) {
                t = Integer.rotateLeft(t, 8);
                int s = 0;
                for (int k = 0; k < 32; k += 8) {
                    s |= SUBSTITUTION[t >>> k & 255] << k;
                }
                t = s ^ power << 24;
                power = times(power, 2);
            }
            r[i] = r[i - 4] ^ t;
        }
        return r[4 * Math.floorMod(q, 11) + (c & 3)];
    }

    private static final int[] SUBSTITUTION = new int[256];

    static {
        for (int x = 0; x < 256; x++) {
            SUBSTITUTION[x] = substitute(x);
        }
    }

    private static int pick(Random random) {
        int[] edges = {0, 1, -1, Integer.MIN_VALUE, Integer.MAX_VALUE, 128, 0x01010101};
        return random.nextInt(4) == 0 ? edges[random.nextInt(edges.length)] : random.nextInt();
    }

    private static int[] xor(int[] a, int[] b) {
        return new int[] {a[0] ^ b[0], a[1] ^ b[1], a[2] ^ b[2], a[3] ^ b[3]};
    }

    private static void due(String what, int got, int want) {
        if (got != want) {
            wrong++;
            if (wrong <= 20) {
                System.out.println(what + " answered " + got + ", due is " + want);
            }
        }
    }

    private void step(BlockSealer x, Random random, String where) throws Exception {
        int[] a = {pick(random), pick(random), pick(random), pick(random)};
        switch (random.nextInt(14)) {
            case 0 -> {
                x.key(a[0], a[1], a[2], a[3]);
                System.arraycopy(a, 0, key, 0, 4);
            }
            case 1 -> {
                x.block(a[0], a[1], a[2], a[3]);
                block = a;
            }
            case 2 -> {
                x.mix(a[0], a[1], a[2], a[3]);
                block = xor(block, a);
            }
            case 3, 4 -> {
                x.encrypt();
                block = cipher(Cipher.ENCRYPT_MODE, block);
            }
            case 5, 6 -> {
                x.decrypt();
                block = cipher(Cipher.DECRYPT_MODE, block);
            }
            case 7 -> {
                x.next();
                block[3]++;
            }
            case 8, 9 -> {
                x.absorb();
                hash = product(xor(hash, block), cipher(Cipher.ENCRYPT_MODE, new int[4]));
            }
            case 10 -> {
                if (random.nextInt(4) == 0) {
                    x.restart();
                    hash = new int[4];
                }
            }
            case 11 -> due(where + "word(" + a[0] + ")", x.word(a[0]), block[a[0] & 3]);
            case 12 -> due(where + "hash(" + a[0] + ")", x.hash(a[0]), hash[a[0] & 3]);
            default -> due(where + "roundKey(" + a[0] + ", " + a[1] + ")", x.roundKey(a[0], a[1]), roundKey(a[0], a[1]));
        }
    }

    private void compare(BlockSealer x, String where) {
        for (int c = 0; c < 4; c++) {
            due(where + "word(" + c + ")", x.word(c), block[c]);
            due(where + "hash(" + c + ")", x.hash(c), hash[c]);
        }
    }

    private static void randomRuns(Random random) throws Exception {
        for (int run = 0; run < OBJECTS; run++) {
            BlockSealer x = new BlockSealer();
            BlockSealerModel model = new BlockSealerModel();
            // Half of the runs look at the state after every call, with fewer
            // calls so as to stay within the 512 that are promised.
            boolean look = run % 2 == 0;
            int steps = look ? CALLS / 9 : CALLS - 8;
            for (int n = 0; n < steps; n++) {
                String where = "run " + run + " step " + n + ": ";
                model.step(x, random, where);
                if (look) {
                    model.compare(x, where);
                }
            }
            if (!look) {
                model.compare(x, "run " + run + " at its end: ");
            }
        }
    }

    /** Seals a message in the whole mode that the hash is made for, as a user would. */
    private static void sealing(Random random) throws Exception {
        for (int blocks = 0; blocks <= 6; blocks++) {
            int[] key = random.ints(4).toArray();
            int[] start = random.ints(3).toArray();
            int[] text = random.ints(4 * blocks).toArray();
            Cipher c = Cipher.getInstance("AES/GCM/NoPadding");
            c.init(Cipher.ENCRYPT_MODE, new SecretKeySpec(bytes(key), "AES"), new GCMParameterSpec(128, bytes(start)));
            int[] want = words(c.doFinal(bytes(text)));
            BlockSealer x = new BlockSealer();
            x.key(key[0], key[1], key[2], key[3]);
            for (int b = 0; b < blocks; b++) {
                x.block(start[0], start[1], start[2], b + 1);
                x.next();
                x.encrypt();
                x.mix(text[4 * b], text[4 * b + 1], text[4 * b + 2], text[4 * b + 3]);
                for (int i = 0; i < 4; i++) {
                    due("sealing " + blocks + " blocks: word(" + i + ")", x.word(i), want[4 * b + i]);
                }
                x.absorb();
            }
            x.block(0, 0, 0, 128 * blocks);
            x.absorb();
            x.block(start[0], start[1], start[2], 1);
            x.encrypt();
            x.mix(x.hash(0), x.hash(1), x.hash(2), x.hash(3));
            for (int i = 0; i < 4; i++) {
                due("sealing " + blocks + " blocks, tag: word(" + i + ")", x.word(i), want[4 * blocks + i]);
            }
        }
    }

    public static void main(String[] args) throws Exception {
        Random random = new Random(20261116);
        randomRuns(random);
        sealing(random);
        System.out.println(wrong == 0 ? "all answers are as due" : wrong + " answers are not as due");
        if (wrong != 0) {
            System.exit(1);
        }
    }
}
