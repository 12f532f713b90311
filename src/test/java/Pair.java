import java.util.Arrays;

/** A SealedWire under test, with what the tests do again and again. */
final class Pair {
    static final int REFUSED = -1, NONE = -2, FULL = -3, FAILED = -4, WRONG = -5;
    static final int IDLE = 0, GREETED = 1, OPEN = 2, CLOSED = 3, BROKEN = 4;

    final int seed;
    final SealedWire wire;
    private byte[] secret;

    Pair(int seed) {
        this.seed = seed;
        wire = new SealedWire(seed);
    }

    /** Both sides are OPEN, by key 0, which is H of no bytes on both. */
    static Pair open(int seed) {
        Pair pair = new Pair(seed);
        pair.sameKey(0);
        pair.greetAll(0);
        return pair;
    }

    /** A side is in a state, with key 0, and both wires are empty. */
    static Pair inState(int side, int state) {
        Pair pair = new Pair(90 + state);
        pair.sameKey(0);
        if (state == GREETED) {
            pair.wire.greet(0);
            pair.wire.receive(0);
        } else if (state != IDLE) {
            pair.greetAll(0);
        }
        if (state == CLOSED) {
            pair.wire.close(side);
        } else if (state == BROKEN) {
            pair.forge(1 - side, Library.bytes(0, 0, 0));
            pair.wire.receive(1 - side);
        }
        pair.empty(0);
        pair.empty(1);
        Check.due("the state of side " + side, pair.wire.look(side, 0), state);
        return pair;
    }

    void sameKey(int k, int... text) {
        tape(Library.bytes(text));
        Check.due("key(0, " + k + ")", wire.key(0, k), 0);
        tape(Library.bytes(text));
        Check.due("key(1, " + k + ")", wire.key(1, k), 0);
    }

    /** The whole greeting, on wires that were empty; finds S for key text of no bytes. */
    void greetAll(int k) {
        byte[] first = Library.join(Library.random(0, seed, wire.look(0, 6)), Library.bytes(k));
        byte[] second = Library.random(1, seed, wire.look(1, 6));
        secret = Library.mac(Library.hash(), Library.hash(first, second));
        Check.due("greet(" + k + ")", wire.greet(k), 0);
        Check.due("receive(0) of the greeting", wire.receive(0), 1);
        Check.due("receive(1) of the reply", wire.receive(1), 2);
        Check.due("receive(0) of the proof", wire.receive(0), 3);
    }

    byte[] firstKey(int direction) {
        return Library.firstKey(secret, direction);
    }

    /** Puts bytes on an empty tape. */
    void tape(byte[] bytes) {
        byte[] padded = Arrays.copyOf(bytes, (bytes.length + 19) / 20 * 20);
        for (int i = 0; i < padded.length; i += 20) {
            Check.due("feed", wire.feed(number(padded, i), number(padded, i + 4), number(padded, i + 8),
                number(padded, i + 12), number(padded, i + 16)), i + 20);
        }
        Check.due("end(" + bytes.length + ")", wire.end(bytes.length), bytes.length);
    }

    private static int number(byte[] bytes, int i) {
        return (bytes[i] & 255) << 24 | (bytes[i + 1] & 255) << 16 | (bytes[i + 2] & 255) << 8 | bytes[i + 3] & 255;
    }

    int forge(int to, byte[] record) {
        tape(record);
        return wire.forge(to);
    }

    int name(String name) {
        tape(text(name));
        return wire.name();
    }

    int request(int op, byte[] bytes) {
        tape(bytes);
        return wire.request(op);
    }

    /** A request that goes there and back: its answer. */
    byte[] ask(int op, byte[] bytes) {
        Check.due("request(" + op + ")", request(op, bytes), 0);
        Check.due("receive(0) of the request", wire.receive(0), 4);
        Check.due("receive(1) of the answer", wire.receive(1), 4);
        wire.answer();
        return out();
    }

    byte[] ask(int op) {
        return ask(op, new byte[0]);
    }

    byte[] out() {
        byte[] bytes = new byte[wire.octet(-1)];
        for (int i = 0; i < bytes.length; i++) {
            bytes[i] = (byte) wire.octet(i);
        }
        return bytes;
    }

    byte[] record(int on, int k) {
        int size = wire.wire(on, k, -1);
        if (size < 0) {
            return null;
        }
        byte[] bytes = new byte[size];
        for (int i = 0; i < size; i++) {
            bytes[i] = (byte) wire.wire(on, k, i);
        }
        return bytes;
    }

    /** Comes to the receiver of a wire, OPEN, as the first one, sealed as only who has the keys can. */
    static Pair comes(int on, byte[] plain, int want) {
        Pair pair = open(56);
        Check.due("forge", pair.forge(on, Library.sealedRecord(pair.firstKey(on), 0, plain)), plain.length + 19);
        Check.due("receive(" + on + ") of " + Arrays.toString(plain), pair.wire.receive(on), want);
        Check.due("it goes", pair.wire.count(3 + on), 0);
        if (want == FAILED) {
            Check.due("the receiver is FAILED", pair.wire.look(1 - on, 0), BROKEN);
            Check.due("it sends nothing", pair.wire.count(4 - on), 0);
            Check.due("nothing is done", pair.wire.count(0) + pair.wire.count(1) + pair.wire.count(2), 0);
        }
        return pair;
    }

    static byte[] text(String s) {
        return s.getBytes(java.nio.charset.StandardCharsets.ISO_8859_1);
    }

    /** Fills a wire to its 12 records with ones that mean nothing. */
    void crowd(int on) {
        crowd(on, 12);
    }

    void crowd(int on, int records) {
        for (int k = wire.count(3 + on); k < records; k++) {
            forge(on, Library.bytes(9, 0, 0));
        }
    }

    /** All that can be seen without a change: both sides, the counts, the wires and OUT. */
    String view() {
        StringBuilder seen = new StringBuilder("sides");
        for (int side = 0; side < 2; side++) {
            for (int what = 0; what < 7; what++) {
                seen.append(' ').append(wire.look(side, what));
            }
        }
        seen.append(" counts");
        for (int what = 0; what < 5; what++) {
            seen.append(' ').append(wire.count(what));
        }
        for (int on = 0; on < 2; on++) {
            seen.append(" wire ").append(on);
            for (int k = 0; k < wire.count(3 + on); k++) {
                seen.append(' ').append(Arrays.toString(record(on, k)));
            }
        }
        return seen.append(" OUT ").append(Arrays.toString(out())).toString();
    }

    /** The tape has so many bytes; it stays as it is. */
    void dueTape(String when, int size) {
        Check.due("the tape has no more " + when, wire.end(size + 1), REFUSED);
        Check.due("the tape has no less " + when, wire.end(size), size);
    }

    void empty(int on) {
        for (int k = wire.count(3 + on); k > 0; k--) {
            wire.drop(on, 0);
        }
    }
}
