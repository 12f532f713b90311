import java.util.ArrayList;
import java.util.Arrays;
import java.util.HashMap;
import java.util.List;
import java.util.Map;

/** The document once more, over the Java library and with no thought of room: the random runs' judge. */
final class Model {
    private static final int REFUSED = -1, NONE = -2, FULL = -3, FAILED = -4, WRONG = -5;
    private static final int IDLE = 0, GREETED = 1, OPEN = 2, CLOSED = 3, BROKEN = 4;

    private static final class Party {
        int state = IDLE;
        int randoms;
        final byte[][] keys = new byte[8][];
        final byte[][] sealing = new byte[2][];
        final int[] numbers = new int[2];
        final int[] generations = new int[2];
        byte[] firstBody;
        byte[] g;
        byte[] s;

        byte[] proof(int mark) {
            return Library.mac(Library.mac(s, Library.bytes(102)), Library.bytes(mark), g);
        }

        void open() {
            state = OPEN;
            for (int d = 0; d < 2; d++) {
                numbers[d] = 0;
                generations[d] = 0;
                sealing[d] = Library.firstKey(s, d);
            }
        }

        void renew(int d) {
            generations[d]++;
            numbers[d] = 0;
            sealing[d] = Library.nextKey(sealing[d], d, generations[d]);
        }
    }

    private final int seed;
    private final Party[] sides = {new Party(), new Party()};
    private final List<List<byte[]>> wires = List.of(new ArrayList<>(), new ArrayList<>());
    private final Map<String, byte[]> store = new HashMap<>();
    private byte[] tape = {};
    private byte[] out = {};
    private byte[] name = {110};
    private byte[] latest;
    private int requests;
    private int answers;

    Model(int seed) {
        this.seed = seed;
    }

    private byte[] takeTape() {
        byte[] taken = tape;
        tape = new byte[0];
        return taken;
    }

    private static boolean two(int n) {
        return n == 0 || n == 1;
    }

    private boolean crowded(int wire) {
        return wires.get(wire).size() == 12;
    }

    private byte[] recordAt(int wire, int k) {
        return two(wire) && k >= 0 && k < wires.get(wire).size() ? wires.get(wire).get(k) : null;
    }

    private byte[] random(int side) {
        return Library.random(side, seed, sides[side].randoms++);
    }

    int feed(int a, int b, int c, int d, int e) {
        if (tape.length > 180) {
            return FULL;
        }
        tape = Library.join(tape, Library.number(a), Library.number(b), Library.number(c), Library.number(d),
            Library.number(e));
        return tape.length;
    }

    int end(int n) {
        if (n < 0 || tape.length < n) {
            return REFUSED;
        }
        tape = Arrays.copyOf(tape, n);
        return n;
    }

    int octet(int i) {
        return i == -1 ? out.length : i < 0 || i >= out.length ? NONE : out[i] & 255;
    }

    int key(int side, int k) {
        byte[] text = takeTape();
        if (!two(side) || k < 0 || k > 7) {
            return REFUSED;
        }
        sides[side].keys[k] = Library.hash(text);
        return 0;
    }

    int forget(int side, int k) {
        if (!two(side) || k < 0 || k > 7) {
            return REFUSED;
        }
        int result = sides[side].keys[k] == null ? NONE : 0;
        sides[side].keys[k] = null;
        return result;
    }

    int greet(int k) {
        Party client = sides[0];
        if (k < 0 || k > 7) {
            return REFUSED;
        }
        if (client.keys[k] == null) {
            return NONE;
        }
        if (client.state != IDLE) {
            return WRONG;
        }
        if (crowded(0)) {
            return FULL;
        }
        client.firstBody = Library.join(random(0), Library.bytes(k));
        wires.get(0).add(Library.record(1, client.firstBody));
        client.state = GREETED;
        return 0;
    }

    int idle(int side) {
        if (!two(side)) {
            return REFUSED;
        }
        sides[side].state = IDLE;
        return 0;
    }

    int name() {
        byte[] text = takeTape();
        if (text.length < 1 || text.length > 16) {
            return REFUSED;
        }
        name = text;
        return text.length;
    }

    int request(int op) {
        byte[] text = takeTape();
        if (op < 0 || op > 4 || (op == 0 || op == 2) && text.length > 0 || text.length > 64) {
            return REFUSED;
        }
        return send(0, Library.join(Library.bytes(0, op, name.length), name, text));
    }

    int renew(int side) {
        if (!two(side)) {
            return REFUSED;
        }
        int result = send(side, Library.bytes(1));
        if (result == 0) {
            sides[side].renew(side);
        }
        return result;
    }

    int close(int side) {
        if (!two(side)) {
            return REFUSED;
        }
        int result = send(side, Library.bytes(2));
        if (result == 0) {
            sides[side].state = CLOSED;
        }
        return result;
    }

    private int send(int side, byte[] plain) {
        Party sender = sides[side];
        if (sender.state != OPEN) {
            return WRONG;
        }
        if (crowded(side)) {
            return FULL;
        }
        wires.get(side).add(Library.sealedRecord(sender.sealing[side], sender.numbers[side]++, plain));
        return 0;
    }

    int receive(int wire) {
        if (!two(wire)) {
            return REFUSED;
        }
        byte[] record = recordAt(wire, 0);
        if (record == null) {
            return NONE;
        }
        Party receiver = sides[1 - wire];
        boolean over = receiver.state == CLOSED || receiver.state == BROKEN;
        int result = over ? FAILED : taken(wire, record);
        if (result == FAILED && !over) {
            receiver.state = BROKEN;
        }
        if (result != FULL) {
            wires.get(wire).remove(0);
        }
        return result;
    }

    private int taken(int wire, byte[] record) {
        byte[] body = Arrays.copyOfRange(record, 3, record.length);
        if (!Arrays.equals(Library.record(record[0], body), record)) {
            return FAILED;
        }
        int state = sides[1 - wire].state;
        if (record[0] == 1 && wire == 0 && state == IDLE && body.length == 33) {
            return greeted(body);
        }
        if (record[0] == 2 && wire == 1 && state == GREETED && body.length == 64) {
            return replied(body);
        }
        if (record[0] == 3 && wire == 0 && state == GREETED && Arrays.equals(body, sides[1].proof(99))) {
            sides[1].open();
            return 3;
        }
        return record[0] == 4 && state == OPEN ? unsealed(wire, record, body) : FAILED;
    }

    private int greeted(byte[] body) {
        Party server = sides[1];
        int k = body[32] & 255;
        if (k > 7 || server.keys[k] == null) {
            return FAILED;
        }
        if (crowded(1)) {
            return FULL;
        }
        byte[] random = random(1);
        server.g = Library.hash(body, random);
        server.s = Library.mac(server.keys[k], server.g);
        wires.get(1).add(Library.record(2, random, server.proof(115)));
        server.state = GREETED;
        return 1;
    }

    private int replied(byte[] body) {
        Party client = sides[0];
        byte[] key = client.keys[client.firstBody[32]];
        if (key == null) {
            return FAILED;
        }
        client.g = Library.hash(client.firstBody, Arrays.copyOf(body, 32));
        client.s = Library.mac(key, client.g);
        if (!Arrays.equals(client.proof(115), Arrays.copyOfRange(body, 32, 64))) {
            return FAILED;
        }
        if (crowded(0)) {
            return FULL;
        }
        wires.get(0).add(Library.record(3, client.proof(99)));
        client.open();
        latest = null;
        return 2;
    }

    private int unsealed(int d, byte[] record, byte[] body) {
        Party receiver = sides[1 - d];
        byte[] plain = Library.unseal(receiver.sealing[d], receiver.numbers[d], Arrays.copyOf(record, 3), body);
        if (plain == null || plain.length == 0) {
            return FAILED;
        }
        byte[] data = Arrays.copyOfRange(plain, 1, plain.length);
        if (plain[0] == 0) {
            return d == 0 ? asked(data) : answered(data);
        }
        if (data.length > 0 || plain[0] != 1 && plain[0] != 2) {
            return FAILED;
        }
        if (plain[0] == 1) {
            receiver.renew(d);
        } else {
            receiver.state = CLOSED;
        }
        return 4;
    }

    private int asked(byte[] data) {
        if (data.length < 2 || data[0] < 0 || data[0] > 4 || data[1] < 1 || data[1] > 16) {
            return FAILED;
        }
        int rest = data.length - 2 - data[1];
        if (rest < 0 || rest > (data[0] % 2 == 1 || data[0] == 4 ? 64 : 0)) {
            return FAILED;
        }
        if (crowded(1)) {
            return FULL;
        }
        String target = Arrays.toString(Arrays.copyOfRange(data, 2, 2 + data[1]));
        byte[] bytes = Arrays.copyOfRange(data, 2 + data[1], data.length);
        sides[1].numbers[0]++;
        send(1, Library.join(Library.bytes(0), done(data[0], target, bytes)));
        requests++;
        return 4;
    }

    private byte[] done(int op, String target, byte[] bytes) {
        byte[] value = store.get(target);
        if (value == null) {
            if (op == 0 || op == 2 || op == 4) {
                return Library.bytes(1);
            }
            if (store.size() == 20) {
                return Library.bytes(3);
            }
            store.put(target, bytes);
            return Library.bytes(0);
        }
        switch (op) {
            case 0:
                return Library.join(Library.bytes(0), value);
            case 1:
                store.put(target, bytes);
                return Library.bytes(0);
            case 2:
                store.remove(target);
                return Library.bytes(0);
            case 3:
                return Library.bytes(2);
            default:
                if (value.length + bytes.length > 64) {
                    return Library.bytes(3);
                }
                store.put(target, Library.join(value, bytes));
                return Library.bytes(0);
        }
    }

    private int answered(byte[] data) {
        boolean withValue = data.length >= 1 && data.length <= 65 && data[0] == 0;
        boolean bare = data.length == 1 && data[0] >= 1 && data[0] <= 3;
        if (!withValue && !bare) {
            return FAILED;
        }
        sides[0].numbers[1]++;
        latest = data;
        answers++;
        return 4;
    }

    int wire(int wire, int k, int i) {
        byte[] record = recordAt(wire, k);
        if (record == null || i < -1 || i >= record.length) {
            return NONE;
        }
        return i == -1 ? record.length : record[i] & 255;
    }

    int flip(int wire, int k, int i, int bits) {
        byte[] record = recordAt(wire, k);
        if (record == null || i < 0 || i >= record.length) {
            return NONE;
        }
        record[i] ^= (byte) bits;
        return record[i] & 255;
    }

    int drop(int wire, int k) {
        if (recordAt(wire, k) == null) {
            return NONE;
        }
        wires.get(wire).remove(k);
        return wires.get(wire).size();
    }

    int copy(int wire, int k, int to) {
        byte[] record = recordAt(wire, k);
        if (record == null) {
            return NONE;
        }
        if (!two(to)) {
            return REFUSED;
        }
        if (crowded(to)) {
            return FULL;
        }
        wires.get(to).add(record.clone());
        return wires.get(to).size();
    }

    int hurry(int wire, int k) {
        if (recordAt(wire, k) == null) {
            return NONE;
        }
        wires.get(wire).add(0, wires.get(wire).remove(k));
        return 0;
    }

    int forge(int wire) {
        byte[] text = takeTape();
        if (!two(wire) || text.length < 3) {
            return REFUSED;
        }
        if (crowded(wire)) {
            return FULL;
        }
        wires.get(wire).add(text);
        return text.length;
    }

    int answer() {
        if (latest == null) {
            return NONE;
        }
        out = latest;
        return out.length;
    }

    int stored() {
        byte[] value = store.get(Arrays.toString(name));
        if (value == null) {
            return NONE;
        }
        out = value;
        return out.length;
    }

    int look(int side, int what) {
        if (!two(side) || what < 0 || what > 6) {
            return REFUSED;
        }
        Party seen = sides[side];
        if (what == 0) {
            return seen.state;
        }
        if (what == 5) {
            int held = 0;
            for (byte[] key : seen.keys) {
                held += key == null ? 0 : 1;
            }
            return held;
        }
        if (what == 6) {
            return seen.randoms;
        }
        if (seen.state != OPEN) {
            return 0;
        }
        return what < 3 ? seen.numbers[what - 1] : seen.generations[what - 3];
    }

    int count(int what) {
        int[] counts = {store.size(), requests, answers, wires.get(0).size(), wires.get(1).size()};
        return what < 0 || what > 4 ? REFUSED : counts[what];
    }

    /** A record that the receiver of a wire, if it is OPEN, unseals: for runs that forge with the keys. */
    byte[] sealedAsDue(int wire, byte[] plain) {
        Party receiver = sides[1 - wire];
        if (receiver.state != OPEN) {
            return null;
        }
        return Library.sealedRecord(receiver.sealing[wire], receiver.numbers[wire], plain);
    }

    boolean isOpen(int side) {
        return sides[side].state == OPEN;
    }

    int onWire(int wire) {
        return wires.get(wire).size();
    }
}
