import java.util.Arrays;

/** Promises 7 and 8, and the greeting as the terms tell it: greet, idle, and the three records. */
public final class GreetingTest {
    public static void main(String[] args) {
        greetAnswers();
        greetWhenFull();
        keysThatDiffer();
        keysThatChangeOnTheWay();
        replyWhenFull();
        proofWhenFull();
        everyBitCounts();
        wrongStates();
        onceEach();
        proofsAreApart();
        wrongSizes();
        idleAgain();
        Check.end();
    }

    private static void greetAnswers() {
        Pair pair = new Pair(21);
        SealedWire x = pair.wire;
        for (int k : new int[] {-1, 8, Integer.MIN_VALUE, Integer.MAX_VALUE}) {
            Check.due("greet(" + k + ")", x.greet(k), Pair.REFUSED);
        }
        Check.due("greet(4) without", x.greet(4), Pair.NONE);
        x.key(1, 4);
        Check.due("greet(4) by the server's", x.greet(4), Pair.NONE);
        x.key(0, 4);
        Check.due("greet(4)", x.greet(4), 0);
        Check.due("the client is GREETED", x.look(0, 0), Pair.GREETED);
        Check.due("the server is IDLE", x.look(1, 0), Pair.IDLE);
        Check.due("randoms of the client", x.look(0, 6), 1);
        Check.due("greet(4) when GREETED", x.greet(4), Pair.WRONG);
        Check.due("greet(5) when GREETED, without", x.greet(5), Pair.NONE);
        Check.due("greet(8) when GREETED", x.greet(8), Pair.REFUSED);
        Check.due("records to the server", x.count(3), 1);
        x.receive(0);
        x.receive(1);
        Check.due("greet(4) when OPEN", x.greet(4), Pair.WRONG);
        x.close(0);
        Check.due("greet(4) when CLOSED", x.greet(4), Pair.WRONG);
        x.idle(0);
        pair.forge(1, Library.bytes(1, 0, 0));
        x.receive(1);
        Check.due("greet(4) when FAILED", x.greet(4), Pair.WRONG);
        Check.due("randoms of the client", x.look(0, 6), 1);
    }

    private static void greetWhenFull() {
        Pair pair = new Pair(22);
        SealedWire x = pair.wire;
        x.key(0, 0);
        pair.crowd(0);
        Check.due("greet(0), FULL", x.greet(0), Pair.FULL);
        Check.due("greet(1), NONE before FULL", x.greet(1), Pair.NONE);
        Check.due("the client is IDLE", x.look(0, 0), Pair.IDLE);
        Check.due("no random is made", x.look(0, 6), 0);
        Check.due("records to the server", x.count(3), 12);
        x.drop(0, 0);
        Check.due("greet(0)", x.greet(0), 0);
        Check.due("the random is the first", pair.record(0, 11),
            Library.record(1, Library.random(0, 22, 0), Library.bytes(0)));
        x.idle(0);
        x.greet(0);
        pair.crowd(0);
        x.idle(1);
        Check.due("greet(0) when FULL and IDLE", x.greet(0), Pair.FULL);
    }

    private static void keysThatDiffer() {
        Pair pair = new Pair(23);
        SealedWire x = pair.wire;
        x.key(0, 0);
        x.feed(0, 0, 0, 0, 0);
        x.key(1, 0);
        x.greet(0);
        Check.due("receive(0)", x.receive(0), 1);
        Check.due("receive(1)", x.receive(1), Pair.FAILED);
        Check.due("the client is FAILED", x.look(0, 0), Pair.BROKEN);
        Check.due("it sends nothing", x.count(3), 0);
        Check.due("the server is GREETED", x.look(1, 0), Pair.GREETED);
    }

    private static void keysThatChangeOnTheWay() {
        Pair pair = new Pair(24);
        SealedWire x = pair.wire;
        pair.sameKey(1, 5);
        x.greet(1);
        x.receive(0);
        x.forget(0, 1);
        Check.due("receive(1) when the key is forgotten", x.receive(1), Pair.FAILED);
        x.idle(0);
        x.idle(1);
        pair.tape(Library.bytes(6));
        x.key(0, 1);
        x.greet(1);
        x.receive(0);
        pair.tape(Library.bytes(5));
        x.key(0, 1);
        Check.due("receive(1) by the key as it is then", x.receive(1), 2);
        x.forget(1, 1);
        Check.due("receive(0) by what the server found before", x.receive(0), 3);
        x.forget(0, 1);
        Check.due("request(0) goes on without the key", x.request(0), 0);
        Check.due("receive(0)", x.receive(0), 4);
        Check.due("receive(1)", x.receive(1), 4);
    }

    private static void replyWhenFull() {
        Pair pair = new Pair(25);
        SealedWire x = pair.wire;
        pair.sameKey(0);
        x.greet(0);
        pair.crowd(1);
        Check.due("receive(0), FULL", x.receive(0), Pair.FULL);
        Check.due("the record stays", x.wire(0, 0, -1), 36);
        Check.due("the server is IDLE", x.look(1, 0), Pair.IDLE);
        Check.due("no random is made", x.look(1, 6), 0);
        x.forget(1, 0);
        Check.due("receive(0) without the key, though FULL", x.receive(0), Pair.FAILED);
        Check.due("the record goes", x.count(3), 0);
        greetAgain(pair);
        Check.due("receive(0), FULL", x.receive(0), Pair.FULL);
        pair.empty(1);
        Check.due("receive(0)", x.receive(0), 1);
        Check.due("the server is GREETED", x.look(1, 0), Pair.GREETED);
        Check.due("randoms of the server", x.look(1, 6), 1);
        Check.due("receive(1)", x.receive(1), 2);
    }

    private static void greetAgain(Pair pair) {
        pair.sameKey(0);
        pair.wire.idle(0);
        pair.wire.idle(1);
        Check.due("greet(0)", pair.wire.greet(0), 0);
    }

    private static void proofWhenFull() {
        Pair pair = new Pair(26);
        SealedWire x = pair.wire;
        pair.sameKey(0);
        x.greet(0);
        x.receive(0);
        pair.crowd(0);
        Check.due("receive(1), FULL", x.receive(1), Pair.FULL);
        Check.due("the client is GREETED", x.look(0, 0), Pair.GREETED);
        Check.due("the record stays", x.count(4), 1);
        pair.empty(0);
        Check.due("receive(1)", x.receive(1), 2);
        Check.due("the client is OPEN", x.look(0, 0), Pair.OPEN);
        Check.due("receive(0)", x.receive(0), 3);
        greetAgain(pair);
        x.receive(0);
        x.flip(1, 0, 66, 128);
        pair.crowd(0);
        Check.due("receive(1) of no proof, though FULL", x.receive(1), Pair.FAILED);
        Check.due("the record goes", x.count(4), 0);
    }

    /** Each byte of each record of the greeting, flipped, makes the receiver fail. */
    private static void everyBitCounts() {
        int[] on = {0, 1, 0};
        int[] size = {36, 67, 35};
        for (int step = 0; step < 3; step++) {
            for (int i = 0; i < size[step]; i++) {
                Pair pair = new Pair(27);
                SealedWire x = pair.wire;
                pair.sameKey(0);
                pair.sameKey(1);
                x.greet(0);
                for (int before = 0; before < step; before++) {
                    x.receive(on[before]);
                }
                x.flip(on[step], 0, i, 1);
                // The server can't tell another random, nor another key that it has: the client can.
                boolean notYet = step == 0 && i > 2;
                String what = "receive of step " + step + ", byte " + i + " flipped";
                Check.due(what, x.receive(on[step]), notYet ? 1 : Pair.FAILED);
                if (notYet) {
                    Check.due(what + ", then the reply", x.receive(1), Pair.FAILED);
                } else {
                    Check.due(what + ": its state", x.look(1 - on[step], 0), Pair.BROKEN);
                    Check.due(what + ": it sends nothing", x.count(4 - on[step]), 0);
                }
            }
        }
    }

    private static void wrongStates() {
        for (int state = 0; state < 3; state++) {
            for (int sort = 0; sort < 6; sort++) {
                for (int side = 0; side < 2; side++) {
                    receiveIn(state, sort, side);
                }
            }
        }
    }

    /** A record of the right size, but of another greeting, comes to a side in some state. */
    private static void receiveIn(int state, int sort, int side) {
        Pair pair = new Pair(28);
        SealedWire x = pair.wire;
        pair.sameKey(0);
        if (state > 0) {
            x.greet(0);
            x.receive(0);
        }
        if (state > 1) {
            x.receive(1);
            x.receive(0);
        }
        pair.empty(0);
        pair.empty(1);
        byte[] body = Library.fill(new int[] {0, 33, 64, 32, 20, 0}[sort], 0);
        pair.forge(1 - side, Library.record(sort, body));
        boolean well = sort == 1 && side == 1 && state == 0;
        String what = "receive of sort " + sort + " by side " + side + " in state " + state;
        Check.due(what, x.receive(1 - side), well ? 1 : Pair.FAILED);
        Check.due(what + ": its state", x.look(side, 0), well ? Pair.GREETED : Pair.BROKEN);
        Check.due(what + ": what it sends", x.count(3 + side), well ? 1 : 0);
        Check.due(what + ": the record goes", x.count(4 - side), 0);
        Check.due(what + ": the other's state", x.look(1 - side, 0), state);
    }

    /** A record of the greeting that is good in itself is not taken in another state. */
    private static void onceEach() {
        Pair pair = new Pair(31);
        SealedWire x = pair.wire;
        pair.sameKey(0);
        x.greet(0);
        x.receive(0);
        x.copy(1, 0, 1);
        x.copy(1, 0, 1);
        x.idle(0);
        Check.due("receive(1) of a reply when IDLE", x.receive(1), Pair.FAILED);
        Check.due("receive(1) of a reply when FAILED", x.receive(1), Pair.FAILED);
        Check.due("no proof is sent", x.count(3), 0);
        pair.empty(1);
        greetAgain(pair);
        x.receive(0);
        x.copy(1, 0, 1);
        Check.due("receive(1) of a reply", x.receive(1), 2);
        Check.due("receive(1) of a reply once more", x.receive(1), Pair.FAILED);
        x.copy(0, 0, 0);
        x.copy(0, 0, 0);
        Check.due("receive(0) of a proof", x.receive(0), 3);
        Check.due("receive(0) of a proof once more", x.receive(0), Pair.FAILED);
        x.idle(1);
        Check.due("receive(0) of a proof when IDLE", x.receive(0), Pair.FAILED);
    }

    /** Each side proves the key by a mark of its own: the other's mark proves nothing. */
    private static void proofsAreApart() {
        Pair pair = new Pair(32);
        SealedWire x = pair.wire;
        pair.sameKey(0);
        x.greet(0);
        x.receive(0);
        byte[] reply = pair.record(1, 0);
        pair.forge(0, Library.record(3, Arrays.copyOfRange(reply, 35, 67)));
        Check.due("receive(0) of the server's own proof", x.receive(0), Pair.FAILED);
        for (int mark : new int[] {99, 115}) {
            Pair other = new Pair(33);
            other.wire.key(0, 6);
            other.wire.greet(6);
            byte[] random = Library.fill(32, 77);
            byte[] g = Library.hash(Library.random(0, 33, 0), Library.bytes(6), random);
            byte[] f = Library.mac(Library.mac(Library.hash(), g), Library.bytes(102));
            other.forge(1, Library.record(2, random, Library.mac(f, Library.bytes(mark), g)));
            int want = mark == 115 ? 2 : Pair.FAILED;
            Check.due("receive(1) of a reply by the mark " + mark, other.wire.receive(1), want);
        }
    }

    private static void wrongSizes() {
        for (int size : new int[] {0, 32, 34, 33}) {
            for (int told : new int[] {0, 32, 33, 34, 289}) {
                Pair pair = new Pair(29);
                pair.sameKey(0);
                pair.forge(0, Library.join(Library.head(1, told), Library.fill(size, 0)));
                boolean well = size == 33 && told == 33;
                Check.due("a greeting of " + size + " that tells " + told, pair.wire.receive(0),
                    well ? 1 : Pair.FAILED);
            }
        }
        for (int k = 0; k < 256; k++) {
            Pair pair = new Pair(29);
            pair.sameKey(7);
            pair.forge(0, Library.record(1, Library.fill(32, 1), Library.bytes(k)));
            Check.due("a greeting by key " + k, pair.wire.receive(0), k == 7 ? 1 : Pair.FAILED);
        }
        Pair pair = new Pair(29);
        pair.sameKey(0);
        pair.wire.greet(0);
        pair.wire.receive(0);
        byte[] reply = pair.record(1, 0);
        reply[2]++;
        pair.forge(1, Library.join(reply, Library.bytes(0)));
        pair.wire.drop(1, 0);
        Check.due("a reply with a byte more", pair.wire.receive(1), Pair.FAILED);
    }

    private static void idleAgain() {
        Pair pair = Pair.open(30);
        SealedWire x = pair.wire;
        for (int side : new int[] {-1, 2, Integer.MIN_VALUE, Integer.MAX_VALUE}) {
            Check.due("idle(" + side + ")", x.idle(side), Pair.REFUSED);
        }
        pair.ask(1, Pair.text("kept"));
        x.stored();
        x.renew(0);
        x.renew(1);
        x.feed(1, 2, 3, 4, 5);
        Check.due("idle(1)", x.idle(1), 0);
        Check.due("the server is IDLE", x.look(1, 0), Pair.IDLE);
        Check.due("the client is OPEN", x.look(0, 0), Pair.OPEN);
        Check.due("idle(0)", x.idle(0), 0);
        Check.due("idle(0) again", x.idle(0), 0);
        Check.due("the client is IDLE", x.look(0, 0), Pair.IDLE);
        for (int side = 0; side < 2; side++) {
            for (int what = 1; what < 5; what++) {
                Check.due("look(" + side + ", " + what + ")", x.look(side, what), 0);
            }
            Check.due("keys stay", x.look(side, 5), 1);
            Check.due("randoms stay", x.look(side, 6), 1);
            Check.due("records stay", x.count(3 + side), 1);
        }
        Check.due("the store stays", x.count(0), 1);
        Check.due("counts stay", x.count(1) + x.count(2), 2);
        Check.due("OUT stays", pair.out(), Pair.text("kept"));
        Check.due("the tape stays", x.end(20), 20);
        x.end(0);
        pair.empty(0);
        pair.empty(1);
        pair.greetAll(0);
        Check.due("randoms go on", x.look(0, 6) + x.look(1, 6), 4);
        Check.due("the generation is 0 anew", x.look(0, 3) + x.look(0, 4) + x.look(1, 3) + x.look(1, 4), 0);
        Check.due("the value is there yet", pair.ask(0), Pair.text("\0kept"));
    }
}
