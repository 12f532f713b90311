import java.lang.reflect.Constructor;
import java.lang.reflect.Field;
import java.lang.reflect.Method;
import java.math.BigInteger;
import java.util.Random;

/**
 * T where its sum is just below or above the prime. No run of calls can be found that comes there, as the key
 * is made by MAC: so this test alone reaches inside the class, and gives Poly1305 the key itself.
 */
public final class PolyTest {
    private static final BigInteger PRIME = BigInteger.ONE.shiftLeft(130).subtract(BigInteger.valueOf(5));
    private static final BigInteger WORD = BigInteger.ONE.shiftLeft(128);
    private static final BigInteger CLAMP = new BigInteger("0ffffffc0ffffffc0ffffffc0fffffff", 16);
    private static final int HEAD = 3, BLOCK = 16;

    public static void main(String[] args) throws ReflectiveOperationException {
        dueAround("the prime", PRIME);
        sumsAroundLimbs();
        blocksOfOnes();
        anyKeys();
        Check.end();
    }

    /** Where a carry goes through all or some of the 26-bit limbs that the class counts in. */
    private static void sumsAroundLimbs() throws ReflectiveOperationException {
        for (int from = 26; from <= 130; from += 26) {
            for (int to = from; to <= 130; to++) {
                dueAround("2 to the " + to + "th and the " + from + "th",
                    BigInteger.ONE.shiftLeft(to).add(BigInteger.ONE.shiftLeft(from)));
            }
        }
    }

    private static void dueAround(String what, BigInteger middle) throws ReflectiveOperationException {
        for (int blocks = 1; blocks <= 11; blocks += blocks < 4 ? 1 : 7) {
            for (int above = -12; above <= 12; above++) {
                byte[] record = recordOfSum(middle.add(BigInteger.valueOf(above)), blocks);
                if (record == null) {
                    continue;
                }
                for (int low : new int[] {0, 1, -1}) {
                    dueTag("a sum " + above + " above " + what + ", " + blocks + " blocks",
                        new int[] {1, 0, 0, 0, low, low, low, low}, record);
                }
            }
        }
    }

    /** By the factor 1, T is of the plain sum of all blocks: C makes it as wanted, null if it can not. */
    private static byte[] recordOfSum(BigInteger wanted, int blocks) {
        byte[] record = new byte[HEAD + BLOCK * blocks];
        BigInteger rest = wanted.subtract(sum(record)).mod(PRIME);
        for (int block = 0; block < blocks; block++) {
            BigInteger part = rest.min(WORD.subtract(BigInteger.ONE));
            put(record, HEAD + BLOCK * block, part);
            rest = rest.subtract(part);
        }
        return rest.signum() == 0 ? record : null;
    }

    private static void blocksOfOnes() throws ReflectiveOperationException {
        for (int size = 0; size <= 181; size++) {
            byte[] record = Library.fill(HEAD + size, 255);
            dueTag("all ones, " + size + " bytes", new int[] {-1, -1, -1, -1, -1, -1, -1, -1}, record);
            dueTag("a factor of one bit, " + size + " bytes", new int[] {0, 0, 0, 0x08000000, -1, -1, -1, -1}, record);
        }
    }

    private static void anyKeys() throws ReflectiveOperationException {
        Random dice = new Random(8439);
        for (int run = 0; run < 3000; run++) {
            byte[] record = new byte[HEAD + dice.nextInt(182)];
            dice.nextBytes(record);
            dueTag("run " + run, dice.ints(8).toArray(), record);
        }
    }

    private static void dueTag(String what, int[] key, byte[] record) throws ReflectiveOperationException {
        BigInteger factor = little(key, 0).and(CLAMP);
        BigInteger sum = BigInteger.ZERO;
        byte[] text = text(record);
        for (int i = 0; i < text.length; i += BLOCK) {
            sum = sum.add(block(text, i)).multiply(factor).mod(PRIME);
        }
        byte[] want = new byte[BLOCK];
        put(want, 0, sum.add(little(key, 4)).mod(WORD));
        Check.due("T of " + what, tagByTheClass(key, record), want);
    }

    private static byte[] tagByTheClass(int[] key, byte[] record) throws ReflectiveOperationException {
        Class<?> bytes = Class.forName("SealedWire$Bytes");
        Class<?> stream = Class.forName("SealedWire$Stream");
        Class<?> poly = Class.forName("SealedWire$Poly");
        Object made = make(stream);
        Field words = stream.getDeclaredField("words");
        words.setAccessible(true);
        System.arraycopy(key, 0, (int[]) words.get(made), 0, key.length);
        Object row = make(bytes, 200);
        for (byte b : record) {
            method(bytes, "put", int.class).invoke(row, b & 255);
        }
        Object tag = make(bytes, BLOCK);
        method(poly, "makeTag", stream, bytes, int.class, bytes).invoke(make(poly), made, row, record.length, tag);
        byte[] got = new byte[BLOCK];
        for (int i = 0; i < BLOCK; i++) {
            got[i] = ((Integer) method(bytes, "at", int.class).invoke(tag, i)).byteValue();
        }
        return got;
    }

    private static Object make(Class<?> type, Object... arguments) throws ReflectiveOperationException {
        Constructor<?> maker = type.getDeclaredConstructors()[0];
        maker.setAccessible(true);
        return maker.newInstance(arguments);
    }

    private static Method method(Class<?> type, String name, Class<?>... parameters)
        throws ReflectiveOperationException {
        Method found = type.getDeclaredMethod(name, parameters);
        found.setAccessible(true);
        return found;
    }

    /** What T is made of: the head, C, both filled with 0s, and how many bytes they have. */
    private static byte[] text(byte[] record) {
        int size = record.length - HEAD;
        byte[] c = java.util.Arrays.copyOfRange(record, HEAD, record.length);
        byte[] lengths = Library.bytes(HEAD, 0, 0, 0, 0, 0, 0, 0, size, 0, 0, 0, 0, 0, 0, 0);
        return Library.join(java.util.Arrays.copyOf(record, HEAD), new byte[BLOCK - HEAD], c,
            new byte[(BLOCK - size % BLOCK) % BLOCK], lengths);
    }

    private static BigInteger sum(byte[] record) {
        byte[] text = text(record);
        BigInteger sum = BigInteger.ZERO;
        for (int i = 0; i < text.length; i += BLOCK) {
            sum = sum.add(block(text, i));
        }
        return sum.mod(PRIME);
    }

    private static BigInteger block(byte[] text, int start) {
        BigInteger number = WORD;
        for (int i = 0; i < BLOCK; i++) {
            number = number.add(BigInteger.valueOf(text[start + i] & 255).shiftLeft(8 * i));
        }
        return number;
    }

    private static BigInteger little(int[] words, int start) {
        BigInteger number = BigInteger.ZERO;
        for (int i = 0; i < 4; i++) {
            number = number.add(BigInteger.valueOf(words[start + i] & 0xffffffffL).shiftLeft(32 * i));
        }
        return number;
    }

    private static void put(byte[] into, int start, BigInteger number) {
        for (int i = 0; i < BLOCK; i++) {
            into[start + i] = number.shiftRight(8 * i).byteValue();
        }
    }
}
