import java.util.Arrays;

/** The boundary sentences on SECRET RANDOM and the GREETING, and of promises 7 and 8. */
public final class EdgeGreetingTest {
    private static final int[] NOT_IDLE = {Pair.GREETED, Pair.OPEN, Pair.CLOSED, Pair.BROKEN};
    private static final int[] NO_SIDE = {-1, 2, Integer.MIN_VALUE, Integer.MAX_VALUE};

    public static void main(String[] args) {
        greetRefusedForAnotherK();
        greetNoneIfItHasNone();
        greetWrongIfNotIdle();
        greetFull();
        greetLooksInItsOrder();
        manyRandoms();
        serverTakes33Bytes();
        serverIsIdle();
        serverHasAKeyI();
        replyFull();
        clientTakes64Bytes();
        clientIsGreeted();
        clientHasItsKeyThen();
        proofFull();
        serverTakes32Bytes();
        proofThatItFindsItself();
        serverIsGreeted();
        bothBeginAt0();
        idleRefusedForAnotherSide();
        idleOfEveryState();
        idleLeavesTheRest();
        Check.end();
    }

    private static void greetRefusedForAnotherK() {
        Check.sentence("The client greets with key k: 0. REFUSED for another k");
        for (int k = 0; k < 8; k += 7) {
            Pair pair = new Pair(1);
            pair.wire.key(0, k);
            String before = pair.view();
            for (int other : new int[] {-1, 8, Integer.MIN_VALUE, Integer.MAX_VALUE}) {
                Check.due("greet(" + other + ")", pair.wire.greet(other), Pair.REFUSED);
            }
            Check.due("behind REFUSED all", pair.view(), before);
            Check.due("greet(" + k + ")", pair.wire.greet(k), 0);
            Check.due("its byte i", pair.wire.wire(0, 0, 35), k);
        }
    }

    private static void greetNoneIfItHasNone() {
        Check.sentence("greet: NONE if it has none");
        Pair pair = new Pair(1);
        pair.wire.key(1, 3);
        pair.wire.key(0, 2);
        pair.wire.key(0, 4);
        String before = pair.view();
        Check.due("greet(3)", pair.wire.greet(3), Pair.NONE);
        Check.due("behind NONE all", pair.view(), before);
        pair.wire.forget(0, 2);
        Check.due("greet(2), forgotten", pair.wire.greet(2), Pair.NONE);
        Check.due("greet(4)", pair.wire.greet(4), 0);
    }

    private static void greetWrongIfNotIdle() {
        Check.sentence("greet: WRONG if it is not IDLE");
        for (int state : NOT_IDLE) {
            Pair pair = Pair.inState(0, state);
            String before = pair.view();
            Check.due("greet(0) in state " + state, pair.wire.greet(0), Pair.WRONG);
            Check.due("behind WRONG all", pair.view(), before);
        }
        Pair pair = Pair.inState(0, Pair.IDLE);
        Check.due("greet(0) when IDLE", pair.wire.greet(0), 0);
        // The server's state is not asked for.
        for (int state : NOT_IDLE) {
            Pair other = Pair.inState(1, state);
            other.wire.idle(0);
            Check.due("greet(0) when the server is in state " + state, other.wire.greet(0), 0);
        }
    }

    private static void greetFull() {
        Check.sentence("A side that sends what has no place (12 on the wire) does not send it: greet");
        Pair pair = Pair.inState(0, Pair.IDLE);
        pair.crowd(0);
        String before = pair.view();
        Check.due("greet(0) behind 12", pair.wire.greet(0), Pair.FULL);
        Check.due("behind FULL all (no random is made)", pair.view(), before);
        pair.wire.drop(0, 0);
        pair.crowd(1);
        Check.due("greet(0) behind 11", pair.wire.greet(0), 0);
        Check.due("it comes last", pair.record(0, 11),
            Library.record(1, Library.random(0, pair.seed, 0), Library.bytes(0)));
        Check.due("one random is made", pair.wire.look(0, 6), 1);
    }

    private static void greetLooksInItsOrder() {
        Check.sentence("REFUSED for another k; NONE if it has none; WRONG if it is not IDLE; FULL");
        Pair pair = Pair.inState(0, Pair.GREETED);
        pair.crowd(0);
        Check.due("greet(8), not IDLE, FULL", pair.wire.greet(8), Pair.REFUSED);
        Check.due("greet(1), not IDLE, FULL", pair.wire.greet(1), Pair.NONE);
        Check.due("greet(0), not IDLE, FULL", pair.wire.greet(0), Pair.WRONG);
        pair.wire.idle(0);
        Check.due("greet(1), FULL", pair.wire.greet(1), Pair.NONE);
        Check.due("greet(0), FULL", pair.wire.greet(0), Pair.FULL);
    }

    /** 160 randoms are about the most of 512 calls: their number goes over what a signed byte holds. */
    private static void manyRandoms() {
        Check.sentence("4 bytes how many it has made before");
        SealedWire x = new SealedWire(-2);
        x.key(0, 0);
        for (int made = 0; made < 160; made++) {
            x.greet(0);
            if (made == 0 || made == 127 || made == 128 || made == 159) {
                byte[] random = Library.random(0, -2, made);
                Check.due("the first byte of random " + made, x.wire(0, 0, 3), random[0] & 255);
                Check.due("the last byte of random " + made, x.wire(0, 0, 34), random[31] & 255);
            }
            x.idle(0);
            x.drop(0, 0);
        }
        Check.due("randoms made", x.look(0, 6), 160);
    }

    private static void serverTakes33Bytes() {
        Check.sentence("The server, IDLE, receives it with 33 bytes");
        for (int size : new int[] {0, 31, 32, 33, 34, 35, 197}) {
            Pair pair = new Pair(2);
            pair.sameKey(0);
            pair.forge(0, Library.record(1, new byte[size]));
            Check.due("receive(0) of a greeting of " + size, pair.wire.receive(0), size == 33 ? 1 : Pair.FAILED);
            Check.due("the server", pair.wire.look(1, 0), size == 33 ? Pair.GREETED : Pair.BROKEN);
            Check.due("what it sends", pair.wire.count(4), size == 33 ? 1 : 0);
            Check.due("randoms it makes", pair.wire.look(1, 6), size == 33 ? 1 : 0);
        }
    }

    private static void serverIsIdle() {
        Check.sentence("The server, IDLE, receives it");
        for (int state = Pair.IDLE; state <= Pair.BROKEN; state++) {
            Pair pair = Pair.inState(1, state);
            int randoms = pair.wire.look(1, 6);
            pair.forge(0, Library.record(1, new byte[33]));
            boolean well = state == Pair.IDLE;
            Check.due("receive(0) of a greeting in state " + state, pair.wire.receive(0), well ? 1 : Pair.FAILED);
            int then = well ? Pair.GREETED : state == Pair.CLOSED ? Pair.CLOSED : Pair.BROKEN;
            Check.due("the server", pair.wire.look(1, 0), then);
            Check.due("what it sends", pair.wire.count(4), well ? 1 : 0);
            Check.due("randoms it has made", pair.wire.look(1, 6), well ? randoms + 1 : randoms);
        }
    }

    private static void serverHasAKeyI() {
        Check.sentence("if it has a key i: sends sort 2");
        for (int k : new int[] {0, 1, 7, 8, 9, 127, 128, 135, 255}) {
            Pair pair = new Pair(3);
            pair.wire.key(1, 0);
            pair.wire.key(1, 7);
            pair.wire.key(0, 1);
            pair.forge(0, Library.record(1, Library.fill(32, 5), Library.bytes(k)));
            boolean has = k == 0 || k == 7;
            Check.due("receive(0) of a greeting by key " + k, pair.wire.receive(0), has ? 1 : Pair.FAILED);
            Check.due("the server", pair.wire.look(1, 0), has ? Pair.GREETED : Pair.BROKEN);
            Check.due("what it sends", pair.wire.count(4), has ? 1 : 0);
            Check.due("randoms it makes", pair.wire.look(1, 6), has ? 1 : 0);
        }
    }

    private static void replyFull() {
        Check.sentence("A side that sends what has no place (12 on the wire) does not send it: the server's reply");
        Pair pair = Pair.inState(1, Pair.IDLE);
        pair.wire.greet(0);
        pair.crowd(1);
        String before = pair.view();
        Check.due("receive(0), 12 on the other", pair.wire.receive(0), Pair.FULL);
        Check.due("behind FULL all (no random is made)", pair.view(), before);
        pair.wire.drop(1, 0);
        Check.due("receive(0), 11 on the other", pair.wire.receive(0), 1);
        Check.due("it comes last", pair.wire.wire(1, 11, 0), 2);
        Check.due("its random is the first", pair.wire.wire(1, 11, 3), Library.random(1, pair.seed, 0)[0] & 255);
        Check.due("the greeting goes", pair.wire.count(3), 0);
    }

    /** The client is GREETED, and this is the BODY of the reply that it awaits, off the wire. */
    private static byte[] replyFor(Pair pair) {
        pair.sameKey(0);
        pair.wire.greet(0);
        pair.wire.receive(0);
        byte[] record = pair.record(1, 0);
        pair.wire.drop(1, 0);
        return Arrays.copyOfRange(record, 3, record.length);
    }

    private static void clientTakes64Bytes() {
        Check.sentence("The client, GREETED, receives it with 64 bytes");
        for (int size : new int[] {0, 32, 63, 64, 65, 96, 197}) {
            Pair pair = new Pair(4);
            byte[] body = replyFor(pair);
            pair.forge(1, Library.record(2, Arrays.copyOf(body, size)));
            Check.due("receive(1) of a reply of " + size, pair.wire.receive(1), size == 64 ? 2 : Pair.FAILED);
            Check.due("the client", pair.wire.look(0, 0), size == 64 ? Pair.OPEN : Pair.BROKEN);
            Check.due("what it sends", pair.wire.count(3), size == 64 ? 1 : 0);
        }
    }

    private static void clientIsGreeted() {
        Check.sentence("The client, GREETED, receives it");
        for (int state = Pair.IDLE; state <= Pair.BROKEN; state++) {
            Pair pair = new Pair(5);
            byte[] reply = Library.record(2, replyFor(pair));
            bringClientTo(pair, state, reply);
            pair.empty(0);
            pair.forge(1, reply);
            boolean well = state == Pair.GREETED;
            Check.due("receive(1) of a reply in state " + state, pair.wire.receive(1), well ? 2 : Pair.FAILED);
            int then = well ? Pair.OPEN : state == Pair.CLOSED ? Pair.CLOSED : Pair.BROKEN;
            Check.due("the client", pair.wire.look(0, 0), then);
            Check.due("what it sends", pair.wire.count(3), well ? 1 : 0);
        }
    }

    private static void bringClientTo(Pair pair, int state, byte[] reply) {
        if (state == Pair.IDLE) {
            pair.wire.idle(0);
        } else if (state == Pair.OPEN || state == Pair.CLOSED) {
            pair.forge(1, reply);
            Check.due("receive(1) of the reply", pair.wire.receive(1), 2);
        }
        if (state == Pair.CLOSED) {
            pair.wire.close(0);
        } else if (state == Pair.BROKEN) {
            pair.forge(1, Library.bytes(0, 0, 0));
            pair.wire.receive(1);
        }
        Check.due("the client", pair.wire.look(0, 0), state);
    }

    private static void clientHasItsKeyThen() {
        Check.sentence("finds the same by its own key i, as it is then");
        Pair gone = new Pair(6);
        byte[] reply = Library.record(2, replyFor(gone));
        gone.wire.forget(0, 0);
        gone.forge(1, reply);
        Check.due("receive(1) when the key is forgotten", gone.wire.receive(1), Pair.FAILED);
        Check.due("what it sends", gone.wire.count(3), 0);

        Pair other = new Pair(6);
        reply = Library.record(2, replyFor(other));
        other.tape(Library.bytes(1));
        other.wire.key(0, 0);
        other.forge(1, reply);
        Check.due("receive(1) when the key is another", other.wire.receive(1), Pair.FAILED);

        Pair back = new Pair(6);
        reply = Library.record(2, replyFor(back));
        back.wire.forget(0, 0);
        back.wire.key(0, 0);
        back.forge(1, reply);
        Check.due("receive(1) when the key is there again", back.wire.receive(1), 2);
    }

    private static void proofFull() {
        Check.sentence("A side that sends what has no place (12 on the wire) does not send it: the client's proof");
        Pair pair = new Pair(7);
        byte[] reply = Library.record(2, replyFor(pair));
        pair.forge(1, reply);
        pair.crowd(0);
        String before = pair.view();
        Check.due("receive(1), 12 on the other", pair.wire.receive(1), Pair.FULL);
        Check.due("behind FULL all", pair.view(), before);
        pair.wire.drop(0, 0);
        Check.due("receive(1), 11 on the other", pair.wire.receive(1), 2);
        Check.due("it comes last", pair.wire.wire(0, 11, 0), 3);
        Check.due("the reply goes", pair.wire.count(4), 0);
        Check.due("the client", pair.wire.look(0, 0), Pair.OPEN);
    }

    private static void serverTakes32Bytes() {
        Check.sentence("The server, GREETED, receives it with the 32 bytes that it finds itself");
        for (int size : new int[] {0, 1, 31, 32, 33, 64, 197}) {
            Pair pair = new Pair(8);
            byte[] proof = proofFor(pair);
            pair.forge(0, Library.record(3, Arrays.copyOf(proof, size)));
            Check.due("receive(0) of a proof of " + size, pair.wire.receive(0), size == 32 ? 3 : Pair.FAILED);
            Check.due("the server", pair.wire.look(1, 0), size == 32 ? Pair.OPEN : Pair.BROKEN);
        }
        for (int i = 0; i < 32; i += 31) {
            Pair pair = new Pair(8);
            byte[] proof = proofFor(pair);
            proof[i] ^= 1;
            pair.forge(0, Library.record(3, proof));
            Check.due("receive(0) of another byte " + i, pair.wire.receive(0), Pair.FAILED);
        }
    }

    /** The server is GREETED, the client OPEN, and this is the proof, off the wire. */
    private static byte[] proofFor(Pair pair) {
        pair.forge(1, Library.record(2, replyFor(pair)));
        Check.due("receive(1) of the reply", pair.wire.receive(1), 2);
        byte[] record = pair.record(0, 0);
        pair.wire.drop(0, 0);
        return Arrays.copyOfRange(record, 3, record.length);
    }

    /** The server asks for the proof of its own latest reply, whatever the client has found since. */
    private static void proofThatItFindsItself() {
        Check.sentence("the 32 bytes that it finds itself");
        Pair old = new Pair(8);
        old.sameKey(0);
        old.wire.greet(0);
        old.wire.copy(0, 0, 0);
        old.wire.receive(0);
        old.wire.idle(1);
        Check.due("receive(0) of the greeting once more", old.wire.receive(0), 1);
        Check.due("receive(1) of the first reply", old.wire.receive(1), 2);
        Check.due("receive(0) of a proof for the first reply", old.wire.receive(0), Pair.FAILED);
        Check.due("the server", old.wire.look(1, 0), Pair.BROKEN);

        Pair late = new Pair(8);
        byte[] reply = Library.record(2, replyFor(late));
        late.forge(1, reply);
        Check.due("receive(1) of the reply", late.wire.receive(1), 2);
        late.wire.idle(0);
        late.wire.greet(0);
        late.forge(1, reply);
        Check.due("receive(1) of a reply to another greeting", late.wire.receive(1), Pair.FAILED);
        Check.due("receive(0) of the proof", late.wire.receive(0), 3);
        Check.due("the server", late.wire.look(1, 0), Pair.OPEN);
    }

    private static void serverIsGreeted() {
        Check.sentence("The server, GREETED, receives it");
        for (int state = Pair.IDLE; state <= Pair.BROKEN; state++) {
            Pair pair = new Pair(9);
            byte[] proof = Library.record(3, proofFor(pair));
            if (state == Pair.IDLE) {
                pair.wire.idle(1);
            } else if (state == Pair.OPEN || state == Pair.CLOSED) {
                pair.forge(0, proof);
                pair.wire.receive(0);
            }
            if (state == Pair.CLOSED) {
                pair.wire.close(1);
            } else if (state == Pair.BROKEN) {
                pair.forge(0, Library.bytes(0, 0, 0));
                pair.wire.receive(0);
            }
            Check.due("the server", pair.wire.look(1, 0), state);
            pair.forge(0, proof);
            boolean well = state == Pair.GREETED;
            Check.due("receive(0) of a proof in state " + state, pair.wire.receive(0), well ? 3 : Pair.FAILED);
            int then = well ? Pair.OPEN : state == Pair.CLOSED ? Pair.CLOSED : Pair.BROKEN;
            Check.due("the server", pair.wire.look(1, 0), then);
        }
    }

    private static void bothBeginAt0() {
        Check.sentence("For each direction d (0, 1): the GENERATION is 0, the NUMBER is 0");
        Pair pair = Pair.open(10);
        for (int side = 0; side < 2; side++) {
            pair.wire.renew(side);
            pair.wire.receive(side);
        }
        pair.ask(0);
        for (int what = 1; what < 5; what++) {
            Check.due("look(0, " + what + ") before", pair.wire.look(0, what), 1);
            Check.due("look(1, " + what + ") before", pair.wire.look(1, what), 1);
        }
        pair.wire.idle(0);
        pair.wire.idle(1);
        pair.greetAll(0);
        for (int what = 1; what < 5; what++) {
            Check.due("look(0, " + what + ") anew", pair.wire.look(0, what), 0);
            Check.due("look(1, " + what + ") anew", pair.wire.look(1, what), 0);
        }
        for (int d = 0; d < 2; d++) {
            pair.wire.renew(d);
            Check.due("by the first key of direction " + d, pair.record(d, 0),
                Library.sealedRecord(pair.firstKey(d), 0, Library.bytes(1)));
        }
    }

    private static void idleRefusedForAnotherSide() {
        Check.sentence("A side is IDLE again: 0. REFUSED for another side");
        Pair pair = Pair.open(11);
        String before = pair.view();
        for (int side : NO_SIDE) {
            Check.due("idle(" + side + ")", pair.wire.idle(side), Pair.REFUSED);
        }
        Check.due("behind REFUSED all", pair.view(), before);
    }

    private static void idleOfEveryState() {
        Check.sentence("A side is IDLE again");
        for (int side = 0; side < 2; side++) {
            for (int state = Pair.IDLE; state <= Pair.BROKEN; state++) {
                Pair pair = Pair.inState(side, state);
                int other = pair.wire.look(1 - side, 0);
                Check.due("idle(" + side + ") in state " + state, pair.wire.idle(side), 0);
                Check.due("its state", pair.wire.look(side, 0), Pair.IDLE);
                Check.due("the other's state", pair.wire.look(1 - side, 0), other);
            }
        }
    }

    private static void idleLeavesTheRest() {
        Check.sentence("(the server's store, and what is on the wires, stays) (KEYS, how many randoms it has made, TAPE and OUT stay, too)");
        for (int side = 0; side < 2; side++) {
            Pair pair = Pair.open(12);
            pair.ask(1, Library.fill(64, 9));
            pair.wire.stored();
            pair.wire.request(0);
            pair.wire.renew(1);
            pair.wire.idle(1 - side);
            pair.tape(Library.bytes(1, 2, 3));
            // Of the side itself, the state and the four numbers become 0; no call has changed the rest.
            String before = pair.view();
            String own = side == 0 ? "sides 2 2 1 0 0" : " 2 1 0 0 1";
            Check.due("the side is seen OPEN before", before.contains(own) ? 1 : 0, 1);
            Check.due("idle(" + side + ")", pair.wire.idle(side), 0);
            String zero = side == 0 ? "sides 0 0 0 0 0" : " 0 0 0 0 0";
            Check.due("behind idle all else", pair.view(), before.replace(own, zero));
            pair.dueTape("behind idle", 3);
            Check.due("stored() yet", pair.wire.stored(), 64);
        }
    }
}
