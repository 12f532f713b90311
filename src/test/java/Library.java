import java.io.ByteArrayOutputStream;
import java.nio.ByteBuffer;
import java.security.GeneralSecurityException;
import java.security.MessageDigest;
import java.util.Arrays;
import javax.crypto.Cipher;
import javax.crypto.Mac;
import javax.crypto.spec.IvParameterSpec;
import javax.crypto.spec.SecretKeySpec;

/** The document's H, MAC and SEAL by the Java library, so that the class is not judged by itself. */
final class Library {
    private Library() {
    }

    static byte[] hash(byte[]... parts) {
        try {
            return MessageDigest.getInstance("SHA-256").digest(join(parts));
        } catch (GeneralSecurityException e) {
            throw new IllegalStateException(e);
        }
    }

    static byte[] mac(byte[] key, byte[]... parts) {
        try {
            Mac mac = Mac.getInstance("HmacSHA256");
            mac.init(new SecretKeySpec(key, "HmacSHA256"));
            return mac.doFinal(join(parts));
        } catch (GeneralSecurityException e) {
            throw new IllegalStateException(e);
        }
    }

    static byte[] seal(byte[] key, long number, byte[] extra, byte[] plain) {
        try {
            Cipher cipher = Cipher.getInstance("ChaCha20-Poly1305");
            cipher.init(Cipher.ENCRYPT_MODE, new SecretKeySpec(key, "ChaCha20"), nonce(number));
            cipher.updateAAD(extra);
            return cipher.doFinal(plain);
        } catch (GeneralSecurityException e) {
            throw new IllegalStateException(e);
        }
    }

    /** What was sealed, or null if it was not sealed so. */
    static byte[] unseal(byte[] key, long number, byte[] extra, byte[] body) {
        try {
            Cipher cipher = Cipher.getInstance("ChaCha20-Poly1305");
            cipher.init(Cipher.DECRYPT_MODE, new SecretKeySpec(key, "ChaCha20"), nonce(number));
            cipher.updateAAD(extra);
            return cipher.doFinal(body);
        } catch (GeneralSecurityException e) {
            return null;
        }
    }

    /** A whole record of sort 4. */
    static byte[] sealedRecord(byte[] key, long number, byte[] plain) {
        byte[] head = head(4, plain.length + 16);
        return join(head, seal(key, number, head, plain));
    }

    static byte[] record(int sort, byte[]... body) {
        byte[] joined = join(body);
        return join(head(sort, joined.length), joined);
    }

    static byte[] head(int sort, int length) {
        return bytes(sort, length >> 8, length);
    }

    static byte[] random(int side, int seed, int before) {
        return hash(bytes(82, side), number(seed), number(before));
    }

    static byte[] firstKey(byte[] secret, int direction) {
        return mac(secret, bytes(107, direction, 0));
    }

    static byte[] nextKey(byte[] key, int direction, int generation) {
        return mac(key, bytes(107, direction, generation));
    }

    static byte[] number(int n) {
        return ByteBuffer.allocate(4).putInt(n).array();
    }

    static byte[] bytes(int... values) {
        byte[] made = new byte[values.length];
        for (int i = 0; i < values.length; i++) {
            made[i] = (byte) values[i];
        }
        return made;
    }

    static byte[] fill(int size, int value) {
        byte[] made = new byte[size];
        Arrays.fill(made, (byte) value);
        return made;
    }

    static byte[] join(byte[]... parts) {
        ByteArrayOutputStream joined = new ByteArrayOutputStream();
        for (byte[] part : parts) {
            joined.writeBytes(part);
        }
        return joined.toByteArray();
    }

    private static IvParameterSpec nonce(long number) {
        return new IvParameterSpec(ByteBuffer.allocate(12).putInt(0).putLong(number).array());
    }
}
