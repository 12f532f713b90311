/** The boundary sentences on SEALED records, and of promises 11 and 12. */
public final class EdgeSealedTest {
    private static final int[] NO_SIDE = {-1, 2, Integer.MIN_VALUE, Integer.MAX_VALUE};
    private static final byte[] RENEWAL = {1}, CLOSING = {2};

    public static void main(String[] args) {
        renewRefusedForAnotherSide();
        renewWrongIfNotOpen();
        renewFull();
        closeRefusedForAnotherSide();
        closeWrongIfNotOpen();
        closeFull();
        bothLookInTheirOrder();
        sealedOverEveryEdgeOfABlock();
        sealedWithItsSortAndLength();
        numberIsOneMoreThen();
        numberOver255();
        eachSideHasItsOwn();
        generation1AtTheFirstTime();
        generationOver255();
        generationOver127AtTheReceiver();
        renewedAtTheSenderBehindIt();
        closedWhenItComes();
        Check.end();
    }

    private static int send(Pair pair, byte[] kind, int side) {
        return kind == RENEWAL ? pair.wire.renew(side) : pair.wire.close(side);
    }

    private static void dueRefused(byte[] kind) {
        Pair pair = Pair.open(1);
        String before = pair.view();
        for (int side : NO_SIDE) {
            Check.due("side " + side, send(pair, kind, side), Pair.REFUSED);
        }
        Check.due("behind REFUSED all", pair.view(), before);
        for (int side = 0; side < 2; side++) {
            Check.due("side " + side, send(pair, kind, side), 0);
            Check.due("its record", pair.record(side, 0), Library.sealedRecord(pair.firstKey(side), 0, kind));
        }
    }

    private static void dueWrong(byte[] kind) {
        for (int side = 0; side < 2; side++) {
            for (int state = Pair.IDLE; state <= Pair.BROKEN; state++) {
                Pair pair = Pair.inState(side, state);
                String before = pair.view();
                int want = state == Pair.OPEN ? 0 : Pair.WRONG;
                Check.due("side " + side + " in state " + state, send(pair, kind, side), want);
                if (want == Pair.WRONG) {
                    Check.due("behind WRONG all", pair.view(), before);
                }
            }
        }
    }

    private static void dueFull(byte[] kind) {
        for (int side = 0; side < 2; side++) {
            Pair pair = Pair.open(2);
            pair.crowd(side);
            String before = pair.view();
            Check.due("side " + side + " behind 12", send(pair, kind, side), Pair.FULL);
            Check.due("behind FULL all", pair.view(), before);
            pair.wire.drop(side, 0);
            pair.crowd(1 - side);
            Check.due("side " + side + " behind 11", send(pair, kind, side), 0);
            Check.due("it comes last", pair.record(side, 11), Library.sealedRecord(pair.firstKey(side), 0, kind));
        }
    }

    private static void renewRefusedForAnotherSide() {
        Check.sentence("A side makes its KEY for sending anew (kind 1): 0. REFUSED for another side");
        dueRefused(RENEWAL);
    }

    private static void renewWrongIfNotOpen() {
        Check.sentence("renew: WRONG if it is not OPEN");
        dueWrong(RENEWAL);
    }

    private static void renewFull() {
        Check.sentence("A side that sends what has no place (12 on the wire) does not send it: renew");
        dueFull(RENEWAL);
    }

    private static void closeRefusedForAnotherSide() {
        Check.sentence("A side closes (kind 2): 0. REFUSED for another side");
        dueRefused(CLOSING);
    }

    private static void closeWrongIfNotOpen() {
        Check.sentence("close: WRONG if it is not OPEN");
        dueWrong(CLOSING);
    }

    private static void closeFull() {
        Check.sentence("A side that sends what has no place (12 on the wire) does not send it: close");
        dueFull(CLOSING);
    }

    private static void bothLookInTheirOrder() {
        Check.sentence("REFUSED for another side; WRONG if it is not OPEN; FULL");
        Pair pair = Pair.inState(0, Pair.GREETED);
        pair.crowd(0);
        pair.crowd(1);
        for (int side = 0; side < 2; side++) {
            Check.due("renew(" + side + "), not OPEN, FULL", pair.wire.renew(side), Pair.WRONG);
            Check.due("close(" + side + "), not OPEN, FULL", pair.wire.close(side), Pair.WRONG);
        }
        Check.due("renew(2), FULL", pair.wire.renew(2), Pair.REFUSED);
        Check.due("close(2), FULL", pair.wire.close(2), Pair.REFUSED);
    }

    /** What a request may have: 4 to 83 bytes in all, over blocks of 16 and a STREAM of 64. */
    private static void sealedOverEveryEdgeOfABlock() {
        Check.sentence("0s up to a multiple of 16; the byte of its place in the STREAMS of 1, 2, ..");
        for (int size : new int[] {4, 15, 16, 17, 31, 32, 33, 47, 48, 49, 63, 64, 65, 79, 80, 81, 83}) {
            int nameSize = size < 32 ? 1 : 16;
            byte[] name = Library.fill(nameSize, 255);
            byte[] bytes = Library.fill(size - 3 - nameSize, size);
            Pair pair = Pair.open(size);
            pair.tape(name);
            pair.wire.name();
            Check.due("request(1)", pair.request(1, bytes), 0);
            Check.due("x of " + size, pair.record(0, 0), Library.sealedRecord(pair.firstKey(0), 0,
                Library.join(Library.bytes(0, 1, nameSize), name, bytes)));
            Check.due("receive(0)", pair.wire.receive(0), 4);
            Check.due("stored()", pair.wire.stored(), bytes.length);
            Check.due("OUT", pair.out(), bytes);
        }
    }

    private static void sealedWithItsSortAndLength() {
        Check.sentence("SEAL(.., the sort and the 2 bytes of how many the BODY has, x)");
        byte[][] heads = {{4, 0, 17}, {4, 0, 16}, {4, 0, 18}, {4, 1, 17}, {3, 0, 17}, {5, 0, 17}, {}, {4}, {4, 0, 17, 0}};
        for (int d = 0; d < 2; d++) {
            for (byte[] head : heads) {
                Pair pair = Pair.open(11);
                byte[] body = Library.seal(pair.firstKey(d), 0, head, RENEWAL);
                pair.forge(d, Library.join(heads[0], body));
                Check.due("receive(" + d + ")", pair.wire.receive(d), head == heads[0] ? 4 : Pair.FAILED);
            }
        }
        for (int number = -1; number <= 1; number++) {
            Pair pair = Pair.open(11);
            pair.ask(0);
            pair.forge(0, Library.sealedRecord(pair.firstKey(0), 1 + number, RENEWAL));
            Check.due("receive(0) of NUMBER " + (1 + number), pair.wire.receive(0), number == 0 ? 4 : Pair.FAILED);
        }
        Pair pair = Pair.open(11);
        pair.forge(0, Library.sealedRecord(pair.firstKey(1), 0, RENEWAL));
        Check.due("receive(0) by the KEY of the other direction", pair.wire.receive(0), Pair.FAILED);
    }

    private static void numberIsOneMoreThen() {
        Check.sentence("the NUMBER is 1 more then");
        Pair pair = Pair.open(3);
        for (int number = 0; number < 12; number++) {
            Check.due("the sender's before", pair.wire.look(0, 1), number);
            Check.due("request(0)", pair.wire.request(0), 0);
            Check.due("its record", pair.wire.wire(0, number, 3), Library.sealedRecord(pair.firstKey(0), number,
                Library.bytes(0, 0, 1, 110))[3] & 255);
        }
        Check.due("request(0), FULL", pair.wire.request(0), Pair.FULL);
        Check.due("the sender's behind FULL", pair.wire.look(0, 1), 12);
        for (int number = 0; number < 12; number++) {
            Check.due("the receiver's before", pair.wire.look(1, 1), number);
            Check.due("receive(0)", pair.wire.receive(0), 4);
            Check.due("the answer's number", pair.wire.look(1, 2), number + 1);
        }
    }

    /** The client is OPEN by five calls; the proof stays on the wire. */
    private static SealedWire clientOpenIn5Calls(int seed) {
        SealedWire x = new SealedWire(seed);
        x.key(0, 0);
        x.key(1, 0);
        x.greet(0);
        x.receive(0);
        x.receive(1);
        return x;
    }

    private static byte[] firstKeyOf(int seed, int d) {
        byte[] g = Library.hash(Library.random(0, seed, 0), Library.bytes(0), Library.random(1, seed, 0));
        return Library.firstKey(Library.mac(Library.hash(), g), d);
    }

    /** 512 calls are just enough to send 257 records. */
    private static void numberOver255() {
        Check.sentence("8 bytes the NUMBER of d");
        SealedWire x = clientOpenIn5Calls(4);
        byte[] key = firstKeyOf(4, 0);
        byte[] plain = Library.bytes(0, 0, 1, 110);
        for (int number = 0; number <= 256; number++) {
            if (number >= 11) {
                x.drop(0, 0);
            }
            x.request(0);
            if (number == 255) {
                byte[] want = Library.sealedRecord(key, 255, plain);
                Check.due("the last byte of number 255", x.wire(0, 11, 22), want[22] & 255);
            }
        }
        byte[] want = Library.sealedRecord(key, 256, plain);
        Check.due("the first byte of number 256", x.wire(0, 11, 3), want[3] & 255);
        Check.due("the last byte of number 256", x.wire(0, 11, 22), want[22] & 255);
        Check.due("the number behind it", x.look(0, 1), 257);
    }

    private static void eachSideHasItsOwn() {
        Check.sentence("Each side has its own NUMBER and KEY of both directions");
        for (int side = 0; side < 2; side++) {
            Pair pair = Pair.open(5);
            pair.ask(0);
            pair.wire.renew(side);
            Check.due("the sender's number", pair.wire.look(side, 1 + side), 0);
            Check.due("the receiver's number", pair.wire.look(1 - side, 1 + side), 1);
            Check.due("the sender's generation", pair.wire.look(side, 3 + side), 1);
            Check.due("the receiver's generation", pair.wire.look(1 - side, 3 + side), 0);
            for (int seen = 0; seen < 2; seen++) {
                Check.due("the number of the other direction", pair.wire.look(seen, 2 - side), 1);
                Check.due("the generation of the other direction", pair.wire.look(seen, 4 - side), 0);
            }
        }
    }

    private static void generation1AtTheFirstTime() {
        Check.sentence("(g: the GENERATION behind it, 1 at the first time.)");
        for (int d = 0; d < 2; d++) {
            Pair pair = Pair.open(6);
            Check.due("the generation before", pair.wire.look(d, 3 + d), 0);
            pair.wire.renew(d);
            Check.due("the generation behind", pair.wire.look(d, 3 + d), 1);
            byte[] next = Library.nextKey(pair.firstKey(d), d, 1);
            pair.wire.renew(d);
            Check.due("what is sealed by it", pair.record(d, 1), Library.sealedRecord(next, 0, RENEWAL));
            next = Library.nextKey(next, d, 2);
            pair.wire.close(d);
            Check.due("what is sealed by the next", pair.record(d, 2), Library.sealedRecord(next, 0, CLOSING));
        }
    }

    /** 512 calls are just enough to send 257 renewals. */
    private static void generationOver255() {
        Check.sentence("the KEY MAC(the KEY before, the bytes 107, d, g's lowest byte)");
        SealedWire x = clientOpenIn5Calls(7);
        byte[] key = firstKeyOf(7, 0);
        for (int g = 1; g <= 257; g++) {
            if (g > 11) {
                x.drop(0, 0);
            }
            x.renew(0);
            if (g == 256) {
                Check.due("by generation 255", x.wire(0, 11, 19),
                    Library.sealedRecord(key, 0, RENEWAL)[19] & 255);
            }
            if (g <= 256) {
                key = Library.nextKey(key, 0, g & 255);
            }
        }
        byte[] want = Library.sealedRecord(key, 0, RENEWAL);
        Check.due("C by generation 256", x.wire(0, 11, 3), want[3] & 255);
        Check.due("T by generation 256", x.wire(0, 11, 19), want[19] & 255);
        Check.due("the generation is not cut", x.look(0, 3), 257);
    }

    private static void generationOver127AtTheReceiver() {
        Check.sentence("the GENERATION g of d is 1 more .. at the receiver when it comes");
        for (int d = 0; d < 2; d++) {
            Pair pair = Pair.open(8);
            for (int g = 1; g <= 200; g++) {
                Check.due("renew(" + d + ")", pair.wire.renew(d), 0);
                Check.due("receive(" + d + ") of generation " + g, pair.wire.receive(d), 4);
            }
            Check.due("the generation", pair.wire.look(1 - d, 3 + d), 200);
            Check.due("get", pair.ask(0), Library.bytes(1));
        }
    }

    private static void renewedAtTheSenderBehindIt() {
        Check.sentence("the GENERATION g of d is 1 more, at the sender behind it");
        for (int d = 0; d < 2; d++) {
            Pair pair = Pair.open(9);
            pair.ask(0);
            pair.wire.renew(d);
            Check.due("the renewal, by the key before", pair.record(d, 0),
                Library.sealedRecord(pair.firstKey(d), 1, RENEWAL));
            pair.wire.close(d);
            byte[] next = Library.nextKey(pair.firstKey(d), d, 1);
            Check.due("the next, by the new key and NUMBER 0", pair.record(d, 1),
                Library.sealedRecord(next, 0, CLOSING));
            pair.wire.hurry(d, 1);
            Check.due("receive before the renewal has come", pair.wire.receive(d), Pair.FAILED);
        }
    }

    private static void closedWhenItComes() {
        Check.sentence("the sender is CLOSED, and the receiver when it comes");
        for (int side = 0; side < 2; side++) {
            Pair pair = Pair.open(10);
            pair.wire.close(side);
            Check.due("the sender", pair.wire.look(side, 0), Pair.CLOSED);
            Check.due("the receiver before", pair.wire.look(1 - side, 0), Pair.OPEN);
            Check.due("receive(" + side + ")", pair.wire.receive(side), 4);
            Check.due("the receiver behind", pair.wire.look(1 - side, 0), Pair.CLOSED);
            Check.due("it sends nothing", pair.wire.count(4 - side), 0);
        }
    }
}
