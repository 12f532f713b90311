import java.util.Arrays;

/** A SealedWire under test, with what the tests do again and again. */
final class Pair {
    static final int REFUSED = -1, NONE = -2, FULL = -3, FAILED = -4, WRONG = -5;
    static final int IDLE = 0, GREETED = 1, OPEN = 2, CLOSED = 3, BROKEN = 4;

    final int seed;
    final SealedWire wire;
    private byte[] secret;

    Pair(int seed) {
        this.seed = seed;
        wire = new SealedWire(seed);
    }

    /** Both sides are OPEN, by key 0, which is H of no bytes on both. */
    static Pair open(int seed) {
        Pair pair = new Pair(seed);
        pair.sameKey(0);
        pair.greetAll(0);
        return pair;
    }

    void sameKey(int k, int... text) {
        tape(Library.bytes(text));
        Check.due("key(0, " + k + ")", wire.key(0, k), 0);
        tape(Library.bytes(text));
        Check.due("key(1, " + k + ")", wire.key(1, k), 0);
    }

    /** The whole greeting, on wires that were empty; finds S for key text of no bytes. */
    void greetAll(int k) {
        byte[] first = Library.join(Library.random(0, seed, wire.look(0, 6)), Library.bytes(k));
        byte[] second = Library.random(1, seed, wire.look(1, 6));
        secret = Library.mac(Library.hash(), Library.hash(first, second));
        Check.due("greet(" + k + ")", wire.greet(k), 0);
        Check.due("receive(0) of the greeting", wire.receive(0), 1);
        Check.due("receive(1) of the reply", wire.receive(1), 2);
        Check.due("receive(0) of the proof", wire.receive(0), 3);
    }

    byte[] firstKey(int direction) {
        return Library.firstKey(secret, direction);
    }

    /** Puts bytes on an empty tape. */
    void tape(byte[] bytes) {
        byte[] padded = Arrays.copyOf(bytes, (bytes.length + 19) / 20 * 20);
        for (int i = 0; i < padded.length; i += 20) {
            Check.due("feed", wire.feed(number(padded, i), number(padded, i + 4), number(padded, i + 8),
                number(padded, i + 12), number(padded, i + 16)), i + 20);
        }
        Check.due("end(" + bytes.length + ")", wire.end(bytes.length), bytes.length);
    }

    private static int number(byte[] bytes, int i) {
        return (bytes[i] & 255) << 24 | (bytes[i + 1] & 255) << 16 | (bytes[i + 2] & 255) << 8 | bytes[i + 3] & 255;
    }

    int forge(int to, byte[] record) {
        tape(record);
        return wire.forge(to);
    }

    int name(String name) {
        tape(text(name));
        return wire.name();
    }

    int request(int op, byte[] bytes) {
        tape(bytes);
        return wire.request(op);
    }

    /** A request that goes there and back: its answer. */
    byte[] ask(int op, byte[] bytes) {
        Check.due("request(" + op + ")", request(op, bytes), 0);
        Check.due("receive(0) of the request", wire.receive(0), 4);
        Check.due("receive(1) of the answer", wire.receive(1), 4);
        wire.answer();
        return out();
    }

    byte[] ask(int op) {
        return ask(op, new byte[0]);
    }

    byte[] out() {
        byte[] bytes = new byte[wire.octet(-1)];
        for (int i = 0; i < bytes.length; i++) {
            bytes[i] = (byte) wire.octet(i);
        }
        return bytes;
    }

    byte[] record(int on, int k) {
        int size = wire.wire(on, k, -1);
        if (size < 0) {
            return null;
        }
        byte[] bytes = new byte[size];
        for (int i = 0; i < size; i++) {
            bytes[i] = (byte) wire.wire(on, k, i);
        }
        return bytes;
    }

    static byte[] text(String s) {
        return s.getBytes(java.nio.charset.StandardCharsets.ISO_8859_1);
    }

    /** Fills a wire to its 12 records with ones that mean nothing. */
    void crowd(int on) {
        for (int k = wire.count(3 + on); k < 12; k++) {
            forge(on, Library.bytes(9, 0, 0));
        }
    }

    void empty(int on) {
        for (int k = wire.count(3 + on); k > 0; k--) {
            wire.drop(on, 0);
        }
    }
}
