/**
 * A client and a server that share keys, and the two wires between them that anybody may tamper
 * with. Every row of bytes is made by the constructor and used again, so that no call makes an
 * object.
 */
public final class SealedWire {
    public static final int REFUSED = -1, NONE = -2, FULL = -3, FAILED = -4, WRONG = -5;

    private static final int CLIENT = 0, SERVER = 1;

    private static final int SORT_GREETING = 1, SORT_REPLY = 2, SORT_PROOF = 3, SORT_SEALED = 4;
    private static final int KIND_MESSAGE = 0, KIND_RENEWAL = 1, KIND_CLOSING = 2;

    private static final int HEAD = 3, HASH = 32, TAG = 16;
    private static final int GREETING_BODY = HASH + 1, REPLY_BODY = 2 * HASH;
    private static final int TAPE_PLACES = 200, NAME_PLACES = 16, VALUE_PLACES = 64;
    private static final int SERVER_MARK = 115, CLIENT_MARK = 99;

    private final Bytes tape = new Bytes(TAPE_PLACES);
    private final Bytes out = new Bytes(1 + VALUE_PLACES);
    private final Bytes nameInUse = new Bytes(NAME_PLACES);
    private final Sealer sealer = new Sealer();
    private final Side client;
    private final Side server;
    private final Wire toServer = new Wire();
    private final Wire toClient = new Wire();
    private final Store store = new Store();
    private final Request asked = new Request();
    private final Bytes latest = new Bytes(1 + VALUE_PLACES);
    private final Bytes plain = new Bytes(TAPE_PLACES);
    private final Bytes random = new Bytes(HASH);
    private final Bytes bodies = new Bytes(GREETING_BODY + HASH);
    private final Bytes proof = new Bytes(HASH);
    private int requestsAnswered;
    private int answersGot;

    public SealedWire(int seed) {
        client = new Side(CLIENT, seed);
        server = new Side(SERVER, seed);
        nameInUse.put(110);
    }

    public int feed(int a, int b, int c, int d, int e) {
        if (tape.size() + 20 > TAPE_PLACES) {
            return FULL;
        }
        tape.putNumber(a);
        tape.putNumber(b);
        tape.putNumber(c);
        tape.putNumber(d);
        tape.putNumber(e);
        return tape.size();
    }

    public int end(int n) {
        if (n < 0 || n > tape.size()) {
            return REFUSED;
        }
        tape.cut(n);
        return n;
    }

    public int octet(int i) {
        return byteOrSize(out, i);
    }

    public int key(int side, int k) {
        int result = REFUSED;
        if (isSide(side) && Side.isKeyNumber(k)) {
            sideOf(side).setKey(k, tape);
            result = 0;
        }
        tape.clear();
        return result;
    }

    public int forget(int side, int k) {
        if (!isSide(side) || !Side.isKeyNumber(k)) {
            return REFUSED;
        }
        if (!sideOf(side).hasKey(k)) {
            return NONE;
        }
        sideOf(side).loseKey(k);
        return 0;
    }

    public int greet(int k) {
        if (!Side.isKeyNumber(k)) {
            return REFUSED;
        }
        if (!client.hasKey(k)) {
            return NONE;
        }
        if (!client.is(Side.IDLE)) {
            return WRONG;
        }
        if (toServer.isFull()) {
            return FULL;
        }
        client.makeRandom(random);
        client.keepGreeting(random, k);
        Bytes record = toServer.draft();
        record.putHead(SORT_GREETING, GREETING_BODY);
        record.putAll(client.greeting());
        toServer.send();
        client.become(Side.GREETED);
        return 0;
    }

    public int idle(int side) {
        if (!isSide(side)) {
            return REFUSED;
        }
        sideOf(side).become(Side.IDLE);
        return 0;
    }

    public int name() {
        int result = REFUSED;
        if (tape.size() >= 1 && tape.size() <= NAME_PLACES) {
            nameInUse.become(tape);
            result = tape.size();
        }
        tape.clear();
        return result;
    }

    public int request(int op) {
        int result = sendRequest(op);
        tape.clear();
        return result;
    }

    public int renew(int side) {
        int result = sendBare(side, KIND_RENEWAL);
        if (result == 0) {
            sideOf(side).makeKeyAnew(side);
        }
        return result;
    }

    public int close(int side) {
        int result = sendBare(side, KIND_CLOSING);
        if (result == 0) {
            sideOf(side).become(Side.CLOSED);
        }
        return result;
    }

    public int receive(int wire) {
        if (!isWire(wire)) {
            return REFUSED;
        }
        Wire from = wireOf(wire);
        if (!from.has(0)) {
            return NONE;
        }
        Side receiver = wire == 0 ? server : client;
        Bytes record = from.at(0);
        int result = FAILED;
        if (receiver.listens() && record.tellsItsLength()) {
            switch (record.at(0)) {
                case SORT_GREETING:
                    result = takeGreeting(receiver, record);
                    break;
                case SORT_REPLY:
                    result = takeReply(receiver, record);
                    break;
                case SORT_PROOF:
                    result = takeProof(receiver, record);
                    break;
                case SORT_SEALED:
                    result = takeSealed(receiver, record);
                    break;
                default:
                    break;
            }
        }
        if (result == FULL) {
            return FULL;
        }
        if (result == FAILED && receiver.listens()) {
            receiver.become(Side.BROKEN);
        }
        from.remove(0);
        return result;
    }

    public int wire(int wire, int k, int i) {
        if (!isRecord(wire, k)) {
            return NONE;
        }
        return byteOrSize(wireOf(wire).at(k), i);
    }

    public int flip(int wire, int k, int i, int bits) {
        if (!isRecord(wire, k) || !wireOf(wire).at(k).has(i)) {
            return NONE;
        }
        return wireOf(wire).at(k).flipBits(i, bits);
    }

    public int drop(int wire, int k) {
        if (!isRecord(wire, k)) {
            return NONE;
        }
        wireOf(wire).remove(k);
        return wireOf(wire).size();
    }

    public int copy(int wire, int k, int to) {
        if (!isRecord(wire, k)) {
            return NONE;
        }
        if (!isWire(to)) {
            return REFUSED;
        }
        return sendWhole(wireOf(wire).at(k), wireOf(to)) ? wireOf(to).size() : FULL;
    }

    public int hurry(int wire, int k) {
        if (!isRecord(wire, k)) {
            return NONE;
        }
        wireOf(wire).bringFirst(k);
        return 0;
    }

    public int forge(int wire) {
        int size = tape.size();
        int result = REFUSED;
        if (isWire(wire) && size >= HEAD) {
            result = sendWhole(tape, wireOf(wire)) ? size : FULL;
        }
        tape.clear();
        return result;
    }

    public int answer() {
        // An answer has its status at the least, so an empty row means that none came.
        if (latest.size() == 0) {
            return NONE;
        }
        out.become(latest);
        return out.size();
    }

    public int stored() {
        int place = store.find(nameInUse);
        if (place < 0) {
            return NONE;
        }
        out.become(store.valueAt(place));
        return out.size();
    }

    public int look(int side, int what) {
        if (!isSide(side)) {
            return REFUSED;
        }
        Side seen = sideOf(side);
        boolean open = seen.is(Side.OPEN);
        switch (what) {
            case 0:
                return seen.state();
            case 1:
            case 2:
                return open ? seen.direction(what - 1).number() : 0;
            case 3:
            case 4:
                return open ? seen.direction(what - 3).generation() : 0;
            case 5:
                return seen.keysHeld();
            case 6:
                return seen.randomsMade();
            default:
                return REFUSED;
        }
    }

    public int count(int what) {
        switch (what) {
            case 0:
                return store.size();
            case 1:
                return requestsAnswered;
            case 2:
                return answersGot;
            case 3:
                return toServer.size();
            case 4:
                return toClient.size();
            default:
                return REFUSED;
        }
    }

    private static boolean isSide(int side) {
        return side == CLIENT || side == SERVER;
    }

    private static boolean isWire(int wire) {
        return wire == 0 || wire == 1;
    }

    private Side sideOf(int side) {
        return side == CLIENT ? client : server;
    }

    private Wire wireOf(int wire) {
        return wire == 0 ? toServer : toClient;
    }

    private boolean isRecord(int wire, int k) {
        return isWire(wire) && wireOf(wire).has(k);
    }

    private static int byteOrSize(Bytes row, int i) {
        if (i == -1) {
            return row.size();
        }
        return row.has(i) ? row.at(i) : NONE;
    }

    private static boolean sendWhole(Bytes record, Wire to) {
        if (to.isFull()) {
            return false;
        }
        to.draft().putAll(record);
        to.send();
        return true;
    }

    private int sendRequest(int op) {
        if (!Request.isOp(op) || tape.size() > Request.mostBytes(op)) {
            return REFUSED;
        }
        if (!client.is(Side.OPEN)) {
            return WRONG;
        }
        if (toServer.isFull()) {
            return FULL;
        }
        plain.clear();
        plain.put(KIND_MESSAGE);
        plain.put(op);
        plain.put(nameInUse.size());
        plain.putAll(nameInUse);
        plain.putAll(tape);
        sealer.seal(client.direction(CLIENT), plain, toServer);
        return 0;
    }

    private int sendBare(int side, int kind) {
        if (!isSide(side)) {
            return REFUSED;
        }
        Side sender = sideOf(side);
        // A side sends on the wire, and in the direction, of its own number.
        Wire to = wireOf(side);
        if (!sender.is(Side.OPEN)) {
            return WRONG;
        }
        if (to.isFull()) {
            return FULL;
        }
        plain.clear();
        plain.put(kind);
        sealer.seal(sender.direction(side), plain, to);
        return 0;
    }

    private int takeGreeting(Side receiver, Bytes record) {
        if (!receiver.isServer() || !receiver.is(Side.IDLE) || record.size() != HEAD + GREETING_BODY) {
            return FAILED;
        }
        int k = record.at(HEAD + HASH);
        if (!server.hasKey(k)) {
            return FAILED;
        }
        if (toClient.isFull()) {
            return FULL;
        }
        server.makeRandom(random);
        bodies.clear();
        bodies.putPart(record, HEAD, GREETING_BODY);
        bodies.putAll(random);
        server.agree(k, bodies);
        server.prove(SERVER_MARK, proof);
        Bytes reply = toClient.draft();
        reply.putHead(SORT_REPLY, REPLY_BODY);
        reply.putAll(random);
        reply.putAll(proof);
        toClient.send();
        server.become(Side.GREETED);
        return SORT_GREETING;
    }

    private int takeReply(Side receiver, Bytes record) {
        if (receiver.isServer() || !receiver.is(Side.GREETED) || record.size() != HEAD + REPLY_BODY) {
            return FAILED;
        }
        int k = client.greeting().at(HASH);
        if (!client.hasKey(k)) {
            return FAILED;
        }
        bodies.become(client.greeting());
        bodies.putPart(record, HEAD, HASH);
        client.agree(k, bodies);
        client.prove(SERVER_MARK, proof);
        if (!record.holdsAt(HEAD + HASH, proof)) {
            return FAILED;
        }
        if (toServer.isFull()) {
            return FULL;
        }
        client.prove(CLIENT_MARK, proof);
        Bytes last = toServer.draft();
        last.putHead(SORT_PROOF, HASH);
        last.putAll(proof);
        toServer.send();
        client.open();
        latest.clear();
        return SORT_REPLY;
    }

    private int takeProof(Side receiver, Bytes record) {
        if (!receiver.isServer() || !receiver.is(Side.GREETED) || record.size() != HEAD + HASH) {
            return FAILED;
        }
        // The server goes on with what it found by its key when it replied.
        server.prove(CLIENT_MARK, proof);
        if (!record.holdsAt(HEAD, proof)) {
            return FAILED;
        }
        server.open();
        return SORT_PROOF;
    }

    private int takeSealed(Side receiver, Bytes record) {
        if (!receiver.is(Side.OPEN)) {
            return FAILED;
        }
        int sender = receiver.isServer() ? CLIENT : SERVER;
        Direction from = receiver.direction(sender);
        if (!sealer.unseal(from, record, plain) || plain.size() == 0) {
            return FAILED;
        }
        int kind = plain.at(0);
        if (kind == KIND_MESSAGE) {
            return receiver.isServer() ? takeRequest(from) : takeAnswer(from);
        }
        if (plain.size() != 1) {
            return FAILED;
        }
        if (kind == KIND_RENEWAL) {
            receiver.makeKeyAnew(sender);
            return SORT_SEALED;
        }
        if (kind == KIND_CLOSING) {
            receiver.become(Side.CLOSED);
            return SORT_SEALED;
        }
        return FAILED;
    }

    private int takeRequest(Direction from) {
        if (!asked.readFrom(plain)) {
            return FAILED;
        }
        if (toClient.isFull()) {
            return FULL;
        }
        from.step();
        plain.clear();
        plain.put(KIND_MESSAGE);
        store.serve(asked, plain);
        sealer.seal(server.direction(SERVER), plain, toClient);
        requestsAnswered++;
        return SORT_SEALED;
    }

    private int takeAnswer(Direction from) {
        int status = plain.at(1);
        int most = status == Store.DONE ? VALUE_PLACES : 0;
        if (plain.size() < 2 || plain.size() > 2 + most || status > Store.NO_PLACE) {
            return FAILED;
        }
        from.step();
        latest.clear();
        latest.putPart(plain, 1, plain.size() - 1);
        answersGot++;
        return SORT_SEALED;
    }

    /** A row of bytes, each 0 to 255, with so many places as it was made with. */
    private static final class Bytes {
        private final int[] cells;
        private int size;

        Bytes(int places) {
            cells = new int[places];
        }

        int size() {
            return size;
        }

        boolean has(int i) {
            return i >= 0 && i < size;
        }

        int at(int i) {
            return i >= 0 && i < size ? cells[i] : 0;
        }

        /** The number in the four bytes from place i on. */
        int numberAt(int i) {
            if (i < 0 || i > size - 4) {
                return 0;
            }
            return cells[i] << 24 | cells[i + 1] << 16 | cells[i + 2] << 8 | cells[i + 3];
        }

        void clear() {
            size = 0;
        }

        void cut(int n) {
            if (n >= 0 && n < size) {
                size = n;
            }
        }

        void put(int b) {
            if (size < cells.length) {
                cells[size] = b & 255;
                size++;
            }
        }

        void putNumber(int n) {
            put(n >>> 24);
            put(n >>> 16);
            put(n >>> 8);
            put(n);
        }

        void putHead(int sort, int bodySize) {
            put(sort);
            put(bodySize >>> 8);
            put(bodySize);
        }

        void putPart(Bytes from, int start, int n) {
            if (start < 0 || n < 0 || start > from.size - n || n > cells.length - size) {
                return;
            }
            System.arraycopy(from.cells, start, cells, size, n);
            size += n;
        }

        void putAll(Bytes from) {
            putPart(from, 0, from.size);
        }

        void become(Bytes from) {
            size = 0;
            putPart(from, 0, from.size);
        }

        int flipBits(int i, int bits) {
            if (has(i)) {
                cells[i] ^= bits & 255;
            }
            return at(i);
        }

        boolean tellsItsLength() {
            return size >= HEAD && (at(1) << 8 | at(2)) == size - HEAD;
        }

        boolean holdsAt(int start, Bytes part) {
            boolean same = start >= 0 && start <= size - part.size;
            for (int i = 0; same && i < part.size; i++) {
                same = cells[start + i] == part.cells[i];
            }
            return same;
        }

        boolean same(Bytes other) {
            return size == other.size && holdsAt(0, other);
        }
    }

    /** SHA-256, and MAC made of it. */
    private static final class Hash {
        private static final int[] ROUNDS = {
            0x428a2f98, 0x71374491, 0xb5c0fbcf, 0xe9b5dba5, 0x3956c25b, 0x59f111f1, 0x923f82a4, 0xab1c5ed5,
            0xd807aa98, 0x12835b01, 0x243185be, 0x550c7dc3, 0x72be5d74, 0x80deb1fe, 0x9bdc06a7, 0xc19bf174,
            0xe49b69c1, 0xefbe4786, 0x0fc19dc6, 0x240ca1cc, 0x2de92c6f, 0x4a7484aa, 0x5cb0a9dc, 0x76f988da,
            0x983e5152, 0xa831c66d, 0xb00327c8, 0xbf597fc7, 0xc6e00bf3, 0xd5a79147, 0x06ca6351, 0x14292967,
            0x27b70a85, 0x2e1b2138, 0x4d2c6dfc, 0x53380d13, 0x650a7354, 0x766a0abb, 0x81c2c92e, 0x92722c85,
            0xa2bfe8a1, 0xa81a664b, 0xc24b8b70, 0xc76c51a3, 0xd192e819, 0xd6990624, 0xf40e3585, 0x106aa070,
            0x19a4c116, 0x1e376c08, 0x2748774c, 0x34b0bcb5, 0x391c0cb3, 0x4ed8aa4a, 0x5b9cca4f, 0x682e6ff3,
            0x748f82ee, 0x78a5636f, 0x84c87814, 0x8cc70208, 0x90befffa, 0xa4506ceb, 0xbef9a3f7, 0xc67178f2
        };
        private static final int[] START = {
            0x6a09e667, 0xbb67ae85, 0x3c6ef372, 0xa54ff53a, 0x510e527f, 0x9b05688c, 0x1f83d9ab, 0x5be0cd19
        };
        private static final int BLOCK = 64, INNER = 54, OUTER = 92;

        private final int[] sum = new int[8];
        private final int[] words = new int[BLOCK];
        private final Bytes message = new Bytes(TAPE_PLACES + BLOCK);
        private final Bytes inner = new Bytes(HASH);

        void digest(Bytes text, Bytes into) {
            message.become(text);
            finish(into);
        }

        /** The key is read whole before the answer is written, so that both may be one row. */
        void mac(Bytes key, Bytes text, Bytes into) {
            layKey(key, INNER);
            message.putAll(text);
            finish(inner);
            layKey(key, OUTER);
            message.putAll(inner);
            finish(into);
        }

        private void layKey(Bytes key, int with) {
            message.clear();
            for (int i = 0; i < BLOCK; i++) {
                message.put(key.at(i) ^ with);
            }
        }

        private void finish(Bytes into) {
            int bits = message.size() << 3;
            message.put(128);
            int zeros = BLOCK - 8 - message.size() & BLOCK - 1;
            for (int i = 0; i < zeros; i++) {
                message.put(0);
            }
            message.putNumber(0);
            message.putNumber(bits);
            System.arraycopy(START, 0, sum, 0, sum.length);
            for (int place = 0; place < message.size(); place += BLOCK) {
                spread(place);
                mix();
            }
            into.clear();
            for (int i = 0; i < sum.length; i++) {
                into.putNumber(sum[i]);
            }
        }

        private void spread(int place) {
            for (int i = 0; i < 16; i++) {
                words[i] = message.numberAt(place + 4 * i);
            }
            for (int i = 16; i < BLOCK; i++) {
                int x = words[i - 15];
                int y = words[i - 2];
                int low = Integer.rotateRight(x, 7) ^ Integer.rotateRight(x, 18) ^ x >>> 3;
                int high = Integer.rotateRight(y, 17) ^ Integer.rotateRight(y, 19) ^ y >>> 10;
                words[i] = words[i - 16] + low + words[i - 7] + high;
            }
        }

        private void mix() {
            int a = sum[0], b = sum[1], c = sum[2], d = sum[3];
            int e = sum[4], f = sum[5], g = sum[6], h = sum[7];
            for (int i = 0; i < BLOCK; i++) {
                int high = Integer.rotateRight(e, 6) ^ Integer.rotateRight(e, 11) ^ Integer.rotateRight(e, 25);
                int first = h + high + (e & f ^ ~e & g) + ROUNDS[i] + words[i];
                int low = Integer.rotateRight(a, 2) ^ Integer.rotateRight(a, 13) ^ Integer.rotateRight(a, 22);
                int second = low + (a & b ^ a & c ^ b & c);
                h = g;
                g = f;
                f = e;
                e = d + first;
                d = c;
                c = b;
                b = a;
                a = first + second;
            }
            sum[0] += a;
            sum[1] += b;
            sum[2] += c;
            sum[3] += d;
            sum[4] += e;
            sum[5] += f;
            sum[6] += g;
            sum[7] += h;
        }
    }

    /** ChaCha20: the STREAMS of one key and one nonce. */
    private static final class Stream {
        private static final int[] CONSTANTS = {0x61707865, 0x3320646e, 0x79622d32, 0x6b206574};
        private static final int KEY_WORDS = 8, NUMBER_PLACE = 12, NONCE_PLACE = 13, DOUBLE_ROUNDS = 10;

        private final int[] start = new int[16];
        private final int[] words = new int[16];

        /** The nonce is 4 bytes 0 and 8 bytes the number, which stays below what an int holds. */
        void begin(Bytes key, int number) {
            System.arraycopy(CONSTANTS, 0, start, 0, CONSTANTS.length);
            for (int i = 0; i < KEY_WORDS; i++) {
                int j = 4 * i;
                start[4 + i] = key.at(j) | key.at(j + 1) << 8 | key.at(j + 2) << 16 | key.at(j + 3) << 24;
            }
            start[NONCE_PLACE] = 0;
            start[NONCE_PLACE + 1] = 0;
            // ChaCha20 reads its words with the lowest byte first, a number has its highest first.
            start[NONCE_PLACE + 2] = Integer.reverseBytes(number);
        }

        void make(int c) {
            start[NUMBER_PLACE] = c;
            System.arraycopy(start, 0, words, 0, words.length);
            for (int round = 0; round < DOUBLE_ROUNDS; round++) {
                // The first four quarter rounds go down the columns, the others along the diagonals.
                for (int q = 0; q < 8; q++) {
                    int slant = q >>> 2;
                    int column = q & 3;
                    quarter(column, 4 + (column + slant & 3), 8 + (column + 2 * slant & 3),
                        12 + (column + 3 * slant & 3));
                }
            }
            for (int i = 0; i < words.length; i++) {
                words[i] += start[i];
            }
        }

        private void quarter(int i, int j, int k, int l) {
            int a = words[i];
            int b = words[j];
            int c = words[k];
            int d = words[l];
            a += b;
            d = Integer.rotateLeft(d ^ a, 16);
            c += d;
            b = Integer.rotateLeft(b ^ c, 12);
            a += b;
            d = Integer.rotateLeft(d ^ a, 8);
            c += d;
            b = Integer.rotateLeft(b ^ c, 7);
            words[i] = a;
            words[j] = b;
            words[k] = c;
            words[l] = d;
        }

        int word(int i) {
            return words[i & 15];
        }

        int byteAt(int i) {
            return words[i >>> 2 & 15] >>> 8 * (i & 3) & 255;
        }
    }

    /** Poly1305 over a sealed record, its numbers held as five limbs of 26 bits. */
    private static final class Poly {
        private static final long LIMB = 0x3ffffff, WORD = 0xffffffffL;
        private static final int LIMBS = 5, ABOVE_BLOCK = 1 << 24;

        private final long[] factor = new long[LIMBS];
        private final long[] sum = new long[LIMBS];
        private final long[] other = new long[LIMBS];
        private final int[] words = new int[4];
        private final Bytes text = new Bytes(TAPE_PLACES + 3 * TAG);

        /** T of a record whose C ends before the place end; the stream holds the STREAM of 0. */
        void makeTag(Stream stream, Bytes record, int end, Bytes into) {
            layText(record, end);
            begin(stream);
            for (int place = 0; place < text.size(); place += TAG) {
                takeBlock(place);
            }
            finish(stream, into);
        }

        private void layText(Bytes record, int end) {
            text.clear();
            text.putPart(record, 0, HEAD);
            fillBlock();
            text.putPart(record, HEAD, end - HEAD);
            fillBlock();
            // Here the lengths have their lowest byte first, and none needs more than four.
            text.putNumber(Integer.reverseBytes(HEAD));
            text.putNumber(0);
            text.putNumber(Integer.reverseBytes(end - HEAD));
            text.putNumber(0);
        }

        private void fillBlock() {
            int zeros = -text.size() & TAG - 1;
            for (int i = 0; i < zeros; i++) {
                text.put(0);
            }
        }

        private void begin(Stream stream) {
            words[0] = stream.word(0) & 0x0fffffff;
            for (int i = 1; i < 4; i++) {
                words[i] = stream.word(i) & 0x0ffffffc;
            }
            for (int i = 0; i < LIMBS; i++) {
                factor[i] = limbOfWords(i);
                sum[i] = 0;
            }
        }

        private void takeBlock(int place) {
            for (int i = 0; i < 4; i++) {
                words[i] = Integer.reverseBytes(text.numberAt(place + 4 * i));
            }
            for (int i = 0; i < LIMBS; i++) {
                sum[i] += limbOfWords(i);
            }
            sum[LIMBS - 1] += ABOVE_BLOCK;
            for (int k = 0; k < LIMBS; k++) {
                other[k] = 0;
                for (int i = 0; i < LIMBS; i++) {
                    other[k] += sum[i] * (i <= k ? factor[k - i] : 5 * factor[k - i + LIMBS]);
                }
            }
            System.arraycopy(other, 0, sum, 0, LIMBS);
            reduce();
        }

        private long limbOfWords(int i) {
            if (i == 0) {
                return words[0] & LIMB;
            }
            long high = i < 4 ? words[i] & WORD : 0;
            long both = high << 32 | words[i - 1] & WORD;
            return both >>> 32 - 6 * i & LIMB;
        }

        /** 2 to the 130th is 5 above the prime, so what goes over it comes back five times. */
        private void reduce() {
            long over = carry(sum);
            sum[0] += 5 * over;
            sum[1] += sum[0] >>> 26;
            sum[0] &= LIMB;
        }

        /** Answers what goes over the last limb. */
        private static long carry(long[] limbs) {
            long over = 0;
            for (int i = 0; i < LIMBS; i++) {
                limbs[i] += over;
                over = limbs[i] >>> 26;
                limbs[i] &= LIMB;
            }
            return over;
        }

        private void finish(Stream stream, Bytes into) {
            // The second limb may be a little above 26 bits yet.
            reduce();
            System.arraycopy(sum, 0, other, 0, LIMBS);
            other[0] += 5;
            // If 5 more goes over 2 to the 130th, the sum was not below the prime.
            if (carry(other) != 0) {
                System.arraycopy(other, 0, sum, 0, LIMBS);
            }
            into.clear();
            long total = 0;
            for (int i = 0; i < 4; i++) {
                long word = (sum[i] >>> 6 * i | sum[i + 1] << 26 - 6 * i) & WORD;
                total += word + (stream.word(4 + i) & WORD);
                into.putNumber(Integer.reverseBytes((int) total));
                total >>>= 32;
            }
        }
    }

    /** SEAL, to a wire and back. */
    private static final class Sealer {
        private static final int STREAM_BYTES = 64;

        private final Stream stream = new Stream();
        private final Poly poly = new Poly();
        private final Bytes tag = new Bytes(TAG);

        void seal(Direction direction, Bytes plain, Wire to) {
            Bytes record = to.draft();
            record.putHead(SORT_SEALED, plain.size() + TAG);
            stream.begin(direction.sealingKey(), direction.number());
            cover(plain, 0, plain.size(), record);
            stream.make(0);
            poly.makeTag(stream, record, record.size(), tag);
            record.putAll(tag);
            to.send();
            direction.step();
        }

        /** The number of the direction stays, as the record may have to wait for a place. */
        boolean unseal(Direction direction, Bytes record, Bytes plain) {
            int end = record.size() - TAG;
            if (end < HEAD) {
                return false;
            }
            stream.begin(direction.sealingKey(), direction.number());
            stream.make(0);
            poly.makeTag(stream, record, end, tag);
            if (!record.holdsAt(end, tag)) {
                return false;
            }
            plain.clear();
            cover(record, HEAD, end, plain);
            return true;
        }

        private void cover(Bytes from, int start, int end, Bytes into) {
            for (int i = start; i < end; i++) {
                int place = i - start;
                if (place % STREAM_BYTES == 0) {
                    stream.make(1 + place / STREAM_BYTES);
                }
                into.put(from.at(i) ^ stream.byteAt(place % STREAM_BYTES));
            }
        }
    }

    /** NUMBER, GENERATION and KEY of a direction, as one side has them. */
    private static final class Direction {
        private static final int KEY_MARK = 107;

        private final int index;
        private final Bytes current = new Bytes(HASH);
        private final Bytes text = new Bytes(3);
        private int number;
        private int generation;

        Direction(int index) {
            this.index = index;
        }

        Bytes sealingKey() {
            return current;
        }

        int number() {
            return number;
        }

        int generation() {
            return generation;
        }

        void step() {
            number++;
        }

        void makeKey(Hash hash, Bytes from, int nextGeneration) {
            generation = nextGeneration;
            number = 0;
            text.clear();
            text.put(KEY_MARK);
            text.put(index);
            text.put(generation);
            hash.mac(from, text, current);
        }
    }

    /** What the client or the server knows and is. */
    private static final class Side {
        // BROKEN is the document's FAILED, which is the name of an answer here.
        static final int IDLE = 0, GREETED = 1, OPEN = 2, CLOSED = 3, BROKEN = 4;

        private static final int KEYS = 8, RANDOM_MARK = 82, FINISH_MARK = 102;

        private final int index;
        private final int seed;
        private final Hash hash = new Hash();
        private final Bytes[] keys = new Bytes[KEYS];
        private final Direction up = new Direction(0);
        private final Direction down = new Direction(1);
        private final Bytes greeting = new Bytes(GREETING_BODY);
        private final Bytes agreed = new Bytes(HASH);
        private final Bytes secret = new Bytes(HASH);
        private final Bytes finishing = new Bytes(HASH);
        private final Bytes text = new Bytes(1 + HASH);
        private int state = IDLE;
        private int randoms;

        Side(int index, int seed) {
            this.index = index;
            this.seed = seed;
            for (int k = 0; k < KEYS; k++) {
                keys[k] = new Bytes(HASH);
            }
        }

        boolean isServer() {
            return index == SERVER;
        }

        static boolean isKeyNumber(int k) {
            return k >= 0 && k < KEYS;
        }

        boolean hasKey(int k) {
            return isKeyNumber(k) && keys[k].size() > 0;
        }

        void setKey(int k, Bytes from) {
            if (isKeyNumber(k)) {
                hash.digest(from, keys[k]);
            }
        }

        /** A key that is none is an empty row. */
        void loseKey(int k) {
            if (isKeyNumber(k)) {
                keys[k].clear();
            }
        }

        int keysHeld() {
            int held = 0;
            for (int k = 0; k < KEYS; k++) {
                held += hasKey(k) ? 1 : 0;
            }
            return held;
        }

        int randomsMade() {
            return randoms;
        }

        int state() {
            return state;
        }

        boolean is(int asked) {
            return state == asked;
        }

        boolean listens() {
            return state != CLOSED && state != BROKEN;
        }

        void become(int next) {
            state = next;
        }

        Direction direction(int d) {
            return d == 0 ? up : down;
        }

        void makeRandom(Bytes into) {
            text.clear();
            text.put(RANDOM_MARK);
            text.put(index);
            text.putNumber(seed);
            text.putNumber(randoms);
            hash.digest(text, into);
            randoms++;
        }

        void keepGreeting(Bytes random, int k) {
            greeting.become(random);
            greeting.put(k);
        }

        Bytes greeting() {
            return greeting;
        }

        /** Finds what both sides agree on, by key k, of the greeting's body and the server's random. */
        void agree(int k, Bytes bodies) {
            if (!isKeyNumber(k)) {
                return;
            }
            hash.digest(bodies, agreed);
            hash.mac(keys[k], agreed, secret);
            text.clear();
            text.put(FINISH_MARK);
            hash.mac(secret, text, finishing);
        }

        void prove(int mark, Bytes into) {
            text.clear();
            text.put(mark);
            text.putAll(agreed);
            hash.mac(finishing, text, into);
        }

        void open() {
            up.makeKey(hash, secret, 0);
            down.makeKey(hash, secret, 0);
            state = OPEN;
        }

        void makeKeyAnew(int d) {
            Direction renewed = direction(d);
            renewed.makeKey(hash, renewed.sealingKey(), renewed.generation() + 1);
        }
    }

    /** The records on their way to one side. */
    private static final class Wire {
        private static final int MOST = 12;

        // One more than may be on the wire, so that there is always a place to write the next one.
        private final Bytes[] records = new Bytes[MOST + 1];
        private int size;

        Wire() {
            for (int k = 0; k <= MOST; k++) {
                records[k] = new Bytes(TAPE_PLACES);
            }
        }

        int size() {
            return size;
        }

        boolean has(int k) {
            return k >= 0 && k < size;
        }

        boolean isFull() {
            return size >= MOST;
        }

        Bytes at(int k) {
            return records[has(k) ? k : MOST];
        }

        /** The emptied row behind the last record: it is on the wire when it is sent. */
        Bytes draft() {
            records[size].clear();
            return records[size];
        }

        void send() {
            if (size < MOST) {
                size++;
            }
        }

        void remove(int k) {
            if (!has(k)) {
                return;
            }
            Bytes gone = records[k];
            for (int i = k; i < size - 1; i++) {
                records[i] = records[i + 1];
            }
            size--;
            records[size] = gone;
        }

        void bringFirst(int k) {
            if (!has(k)) {
                return;
            }
            Bytes first = records[k];
            for (int i = k; i > 0; i--) {
                records[i] = records[i - 1];
            }
            records[0] = first;
        }
    }

    /** A request as the server reads it. */
    private static final class Request {
        static final int GET = 0, PUT = 1, REMOVE = 2, PUT_NEW = 3, BEHIND = 4;

        // In what was sealed the KIND comes first, then OP and the length of the NAME.
        private static final int OP_PLACE = 1, LENGTH_PLACE = 2, NAME_PLACE = 3;

        private final Bytes target = new Bytes(NAME_PLACES);
        private final Bytes data = new Bytes(VALUE_PLACES);
        private int op;

        static boolean isOp(int op) {
            return op >= GET && op <= BEHIND;
        }

        static int mostBytes(int op) {
            return op == GET || op == REMOVE ? 0 : VALUE_PLACES;
        }

        boolean readFrom(Bytes plain) {
            op = plain.at(OP_PLACE);
            int length = plain.at(LENGTH_PLACE);
            int rest = plain.size() - NAME_PLACE - length;
            if (!isOp(op) || length < 1 || length > NAME_PLACES || rest < 0 || rest > mostBytes(op)) {
                return false;
            }
            target.clear();
            target.putPart(plain, NAME_PLACE, length);
            data.clear();
            data.putPart(plain, NAME_PLACE + length, rest);
            return true;
        }

        int op() {
            return op;
        }

        Bytes target() {
            return target;
        }

        Bytes data() {
            return data;
        }
    }

    /** The server's names and values. */
    private static final class Store {
        static final int DONE = 0, IS_NONE = 1, IS_ONE = 2, NO_PLACE = 3;

        private static final int MOST = 20;

        private final Bytes[] names = new Bytes[MOST];
        private final Bytes[] values = new Bytes[MOST];
        private int size;

        Store() {
            for (int i = 0; i < MOST; i++) {
                names[i] = new Bytes(NAME_PLACES);
                values[i] = new Bytes(VALUE_PLACES);
            }
        }

        int size() {
            return size;
        }

        /** The place of a name, or -1. */
        int find(Bytes target) {
            for (int i = 0; i < size; i++) {
                if (names[i].same(target)) {
                    return i;
                }
            }
            return -1;
        }

        Bytes valueAt(int place) {
            return values[place >= 0 && place < size ? place : 0];
        }

        void serve(Request asked, Bytes answer) {
            int place = find(asked.target());
            switch (asked.op()) {
                case Request.GET:
                    answer.put(place < 0 ? IS_NONE : DONE);
                    if (place >= 0) {
                        answer.putAll(values[place]);
                    }
                    break;
                case Request.PUT:
                    answer.put(place < 0 ? add(asked) : replace(place, asked.data()));
                    break;
                case Request.REMOVE:
                    answer.put(place < 0 ? IS_NONE : removeAt(place));
                    break;
                case Request.PUT_NEW:
                    answer.put(place < 0 ? add(asked) : IS_ONE);
                    break;
                default:
                    answer.put(place < 0 ? IS_NONE : lengthen(place, asked.data()));
                    break;
            }
        }

        private int add(Request asked) {
            if (size >= MOST) {
                return NO_PLACE;
            }
            names[size].become(asked.target());
            values[size].become(asked.data());
            size++;
            return DONE;
        }

        private int replace(int place, Bytes data) {
            values[place].become(data);
            return DONE;
        }

        private int lengthen(int place, Bytes data) {
            if (values[place].size() + data.size() > VALUE_PLACES) {
                return NO_PLACE;
            }
            values[place].putAll(data);
            return DONE;
        }

        /** The last one takes the place that is free: nobody sees the order of the names. */
        private int removeAt(int place) {
            size--;
            Bytes name = names[place];
            Bytes value = values[place];
            names[place] = names[size];
            values[place] = values[size];
            names[size] = name;
            values[size] = value;
            return DONE;
        }
    }
}
