import java.util.Arrays;

/** The boundary sentences on an object's calls, THE TAPE and OUT, and of promises 1 to 4. */
public final class EdgeTapeTest {
    public static void main(String[] args) {
        theLastOf512Calls();
        laterCallsEnd();
        madeWithANumber();
        tapeNoneAtFirst();
        tapeAtMost200();
        fullLeavesTheTape();
        feedHighestFirst();
        endRefusedIfItHasLess();
        endRefusedBelow0();
        endCutsToTheFirst();
        keyEmptiesTheTape();
        nameEmptiesTheTape();
        requestEmptiesTheTape();
        forgeEmptiesTheTape();
        otherCallsKeepTheTape();
        outNoneAtFirst();
        octetNoneIfThereIsNone();
        Check.end();
    }

    private static SealedWire openIn6Calls(int seed) {
        SealedWire x = new SealedWire(seed);
        x.key(0, 0);
        x.key(1, 0);
        x.greet(0);
        x.receive(0);
        x.receive(1);
        x.receive(0);
        return x;
    }

    private static void theLastOf512Calls() {
        Check.sentence("An object is used for at most 512 calls after it has been made");
        SealedWire x = openIn6Calls(1);
        for (int round = 0; round < 168; round++) {
            Check.due("request(4), call " + (7 + 3 * round), x.request(4), 0);
            Check.due("receive(0), call " + (8 + 3 * round), x.receive(0), 4);
            Check.due("receive(1), call " + (9 + 3 * round), x.receive(1), 4);
        }
        Check.due("request(1), call 511", x.request(1), 0);
        Check.due("receive(0), call 512", x.receive(0), 4);

        SealedWire y = new SealedWire(1);
        for (int call = 1; call < 512; call++) {
            Check.due("idle(0), call " + call, y.idle(0), 0);
        }
        Check.due("feed, call 512", y.feed(1, 2, 3, 4, 5), 20);
    }

    /** What they answer is free, but no call may throw or fail to end. */
    private static void laterCallsEnd() {
        Check.sentence("what later calls answer is free");
        SealedWire x = openIn6Calls(2);
        int rounds = 0;
        for (int call = 0; call < 4000; call++) {
            x.renew(0);
            x.feed(call, call, call, call, call);
            x.request(call % 6);
            x.receive(call % 2);
            x.copy(0, 0, 1);
            x.receive(0);
            rounds++;
        }
        Check.due("rounds of calls that ended", rounds, 4000);
    }

    private static void madeWithANumber() {
        Check.sentence("H(the bytes 82 and the side, 4 bytes what all was made with, 4 bytes how many it has made before)");
        for (int seed : new int[] {Integer.MIN_VALUE, -1, 0, 1, 127, 128, 255, 256, 65535, 65536, Integer.MAX_VALUE}) {
            Pair pair = new Pair(seed);
            pair.sameKey(0);
            pair.wire.greet(0);
            pair.wire.receive(0);
            byte[] random = Library.random(1, seed, 0);
            Check.due("the server's random of " + seed, Arrays.copyOfRange(pair.record(1, 0), 3, 35), random);
            pair.wire.idle(0);
            pair.wire.greet(0);
            random = Library.random(0, seed, 1);
            Check.due("the client's second of " + seed, Arrays.copyOfRange(pair.record(0, 0), 3, 35), random);
        }
    }

    private static void tapeNoneAtFirst() {
        Check.sentence("THE TAPE has bytes, none at first");
        SealedWire x = new SealedWire(3);
        Check.due("end(1)", x.end(1), Pair.REFUSED);
        Check.due("end(0)", x.end(0), 0);
        Check.due("name()", x.name(), Pair.REFUSED);
        Check.due("forge(0)", x.forge(0), Pair.REFUSED);
        Check.due("feed", x.feed(0, 0, 0, 0, 0), 20);
    }

    private static void tapeAtMost200() {
        Check.sentence("FULL if it would have more than 200");
        for (int size = 0; size <= 200; size++) {
            Pair pair = new Pair(4);
            pair.tape(new byte[size]);
            int want = size <= 180 ? size + 20 : Pair.FULL;
            Check.due("feed behind " + size, pair.wire.feed(1, 1, 1, 1, 1), want);
            pair.dueTape("behind it", size <= 180 ? size + 20 : size);
        }
    }

    private static void fullLeavesTheTape() {
        Check.sentence("Twenty bytes .. come to the TAPE: how many it has; FULL");
        for (int size : new int[] {180, 181, 199, 200}) {
            Pair pair = new Pair(4);
            byte[] text = Library.fill(size, size);
            pair.tape(text);
            pair.wire.feed(-1, -1, -1, -1, -1);
            pair.wire.feed(-1, -1, -1, -1, -1);
            byte[] want = size == 180 ? Library.join(text, Library.fill(20, 255)) : text;
            Check.due("forge(0)", pair.wire.forge(0), want.length);
            Check.due("what the tape had", pair.record(0, 0), want);
        }
    }

    private static void feedHighestFirst() {
        Check.sentence("Twenty bytes, five times four, the highest of each first");
        Pair pair = new Pair(5);
        pair.wire.feed(Integer.MIN_VALUE, Integer.MAX_VALUE, -1, 0x01020304, 255);
        pair.wire.forge(1);
        byte[] want = Library.bytes(128, 0, 0, 0, 127, 255, 255, 255, 255, 255, 255, 255, 1, 2, 3, 4, 0, 0, 0, 255);
        Check.due("the tape", pair.record(1, 0), want);
    }

    private static void endRefusedIfItHasLess() {
        Check.sentence("REFUSED if it has less");
        for (int size : new int[] {0, 1, 19, 20, 21, 199, 200}) {
            Pair pair = new Pair(6);
            pair.tape(new byte[size]);
            Check.due("end(highest)", pair.wire.end(Integer.MAX_VALUE), Pair.REFUSED);
            Check.due("end(201)", pair.wire.end(201), Pair.REFUSED);
            Check.due("end(" + (size + 1) + ")", pair.wire.end(size + 1), Pair.REFUSED);
            Check.due("end(" + size + ")", pair.wire.end(size), size);
            Check.due("end(" + size + ") again", pair.wire.end(size), size);
        }
    }

    private static void endRefusedBelow0() {
        Check.sentence("REFUSED if .. n is below 0");
        for (int size : new int[] {0, 20, 200}) {
            Pair pair = new Pair(6);
            pair.tape(new byte[size]);
            Check.due("end(-1)", pair.wire.end(-1), Pair.REFUSED);
            Check.due("end(lowest)", pair.wire.end(Integer.MIN_VALUE), Pair.REFUSED);
            pair.dueTape("behind REFUSED", size);
            Check.due("end(0)", pair.wire.end(0), 0);
            pair.dueTape("behind end(0)", 0);
        }
    }

    private static void endCutsToTheFirst() {
        Check.sentence("The TAPE is cut to its first n bytes: n");
        byte[] text = new byte[200];
        for (int i = 0; i < 200; i++) {
            text[i] = (byte) i;
        }
        for (int n : new int[] {3, 19, 20, 21, 199, 200}) {
            Pair pair = new Pair(7);
            pair.tape(text);
            Check.due("end(" + n + ")", pair.wire.end(n), n);
            pair.wire.forge(0);
            Check.due("its first " + n, pair.record(0, 0), Arrays.copyOf(text, n));
        }
    }

    private static void dueEmptied(Pair pair, String behind) {
        pair.dueTape("behind " + behind, 0);
    }

    private static void keyEmptiesTheTape() {
        Check.sentence("calls that read it empty it, whatever they answer: key");
        int[][] calls = {{0, 0, 0}, {1, 7, 0}, {-1, 0, Pair.REFUSED}, {2, 0, Pair.REFUSED}, {0, -1, Pair.REFUSED},
            {1, 8, Pair.REFUSED}};
        for (int[] call : calls) {
            for (int size : new int[] {1, 200}) {
                Pair pair = new Pair(8);
                pair.tape(new byte[size]);
                Check.due("key(" + call[0] + ", " + call[1] + ")", pair.wire.key(call[0], call[1]), call[2]);
                dueEmptied(pair, "key(" + call[0] + ", " + call[1] + ")");
            }
        }
    }

    private static void nameEmptiesTheTape() {
        Check.sentence("calls that read it empty it, whatever they answer: name");
        for (int size : new int[] {1, 16, 17, 200}) {
            Pair pair = new Pair(8);
            pair.tape(new byte[size]);
            Check.due("name() of " + size, pair.wire.name(), size <= 16 ? size : Pair.REFUSED);
            dueEmptied(pair, "name() of " + size);
        }
    }

    private static void requestEmptiesTheTape() {
        Check.sentence("calls that read it empty it, whatever they answer: request");
        Pair pair = Pair.open(8);
        int[][] calls = {{1, 64, 0}, {3, 1, 0}, {4, 64, 0}, {1, 65, Pair.REFUSED}, {0, 1, Pair.REFUSED},
            {2, 1, Pair.REFUSED}, {-1, 1, Pair.REFUSED}, {5, 1, Pair.REFUSED}};
        for (int[] call : calls) {
            String what = "request(" + call[0] + ") with " + call[1];
            Check.due(what, pair.request(call[0], new byte[call[1]]), call[2]);
            dueEmptied(pair, what);
        }
        pair.crowd(0);
        Check.due("request(1), FULL", pair.request(1, new byte[5]), Pair.FULL);
        dueEmptied(pair, "request(1), FULL");
        for (int state : new int[] {Pair.IDLE, Pair.GREETED, Pair.CLOSED, Pair.BROKEN}) {
            Pair other = Pair.inState(0, state);
            Check.due("request(1), WRONG", other.request(1, new byte[5]), Pair.WRONG);
            dueEmptied(other, "request(1), WRONG");
        }
    }

    private static void forgeEmptiesTheTape() {
        Check.sentence("calls that read it empty it, whatever they answer: forge");
        int[][] calls = {{0, 3, 3}, {1, 200, 200}, {-1, 3, Pair.REFUSED}, {2, 200, Pair.REFUSED}, {0, 2, Pair.REFUSED},
            {1, 1, Pair.REFUSED}};
        for (int[] call : calls) {
            Pair pair = new Pair(8);
            String what = "forge(" + call[0] + ") of " + call[1];
            Check.due(what, pair.forge(call[0], new byte[call[1]]), call[2]);
            dueEmptied(pair, what);
        }
        Pair pair = new Pair(8);
        pair.crowd(0);
        Check.due("forge(0), FULL", pair.forge(0, new byte[3]), Pair.FULL);
        dueEmptied(pair, "forge(0), FULL");
    }

    private static void kept(Pair pair, String call, int got, int want) {
        Check.due(call, got, want);
        pair.dueTape("behind " + call, 200);
    }

    /** Only those four read it: the others leave it, also when they are refused. */
    private static void otherCallsKeepTheTape() {
        Check.sentence("calls that read it empty it");
        Pair pair = Pair.open(9);
        SealedWire x = pair.wire;
        pair.crowd(0);
        pair.crowd(1, 2);
        byte[] text = Library.fill(200, 77);
        pair.tape(text);
        kept(pair, "feed, FULL", x.feed(1, 2, 3, 4, 5), Pair.FULL);
        kept(pair, "end(-1)", x.end(-1), Pair.REFUSED);
        kept(pair, "octet(0)", x.octet(0), Pair.NONE);
        kept(pair, "forget(2, 0)", x.forget(2, 0), Pair.REFUSED);
        kept(pair, "forget(0, 1)", x.forget(0, 1), Pair.NONE);
        kept(pair, "forget(1, 0)", x.forget(1, 0), 0);
        kept(pair, "greet(8)", x.greet(8), Pair.REFUSED);
        kept(pair, "greet(1)", x.greet(1), Pair.NONE);
        kept(pair, "greet(0), WRONG", x.greet(0), Pair.WRONG);
        kept(pair, "renew(2)", x.renew(2), Pair.REFUSED);
        kept(pair, "renew(0), FULL", x.renew(0), Pair.FULL);
        kept(pair, "renew(1)", x.renew(1), 0);
        kept(pair, "close(2)", x.close(2), Pair.REFUSED);
        kept(pair, "close(0), FULL", x.close(0), Pair.FULL);
        kept(pair, "close(1)", x.close(1), 0);
        kept(pair, "close(1), WRONG", x.close(1), Pair.WRONG);
        kept(pair, "answer()", x.answer(), Pair.NONE);
        kept(pair, "stored()", x.stored(), Pair.NONE);
        kept(pair, "wire(0, 0, 0)", x.wire(0, 0, 0), 9);
        kept(pair, "flip(0, 0, 0, 1)", x.flip(0, 0, 0, 1), 8);
        kept(pair, "copy(1, 0, 0), FULL", x.copy(1, 0, 0), Pair.FULL);
        kept(pair, "copy(1, 0, 1)", x.copy(1, 0, 1), 5);
        kept(pair, "hurry(1, 2)", x.hurry(1, 2), 0);
        kept(pair, "drop(1, 0)", x.drop(1, 0), 4);
        kept(pair, "receive(2)", x.receive(2), Pair.REFUSED);
        kept(pair, "receive(1)", x.receive(1), Pair.FAILED);
        kept(pair, "look(0, 0)", x.look(0, 0), Pair.BROKEN);
        kept(pair, "count(3)", x.count(3), 12);
        kept(pair, "idle(2)", x.idle(2), Pair.REFUSED);
        kept(pair, "idle(0)", x.idle(0), 0);
        kept(pair, "greet(0), FULL", x.greet(0), Pair.FULL);
        pair.empty(0);
        kept(pair, "greet(0)", x.greet(0), 0);
        Check.due("forge(0)", x.forge(0), 200);
        byte[] last = {(byte) x.wire(0, 1, 0), (byte) x.wire(0, 1, 199)};
        Check.due("what the tape had", last, Library.bytes(77, 77));
    }

    private static void outNoneAtFirst() {
        Check.sentence("OUT has bytes, none at first");
        SealedWire x = new SealedWire(10);
        Check.due("octet(-1)", x.octet(-1), 0);
        Check.due("octet(0)", x.octet(0), Pair.NONE);
    }

    private static void octetNoneIfThereIsNone() {
        Check.sentence("Byte i of OUT; for i -1 how many. NONE if there is none");
        for (int size : new int[] {0, 1, 63, 64}) {
            Pair pair = Pair.open(11);
            byte[] value = Library.fill(size, 255);
            pair.ask(1, value);
            Check.due("stored()", pair.wire.stored(), size);
            dueOctets(pair.wire, size, 255);
            pair.ask(0);
            dueOctets(pair.wire, size + 1, size == 0 ? 0 : 255);
            Check.due("octet(0) of the answer", pair.wire.octet(0), 0);
        }
    }

    private static void dueOctets(SealedWire x, int size, int last) {
        Check.due("octet(-1)", x.octet(-1), size);
        Check.due("octet(" + size + ") of " + size, x.octet(size), Pair.NONE);
        Check.due("octet(-2)", x.octet(-2), Pair.NONE);
        Check.due("octet(highest)", x.octet(Integer.MAX_VALUE), Pair.NONE);
        Check.due("octet(lowest)", x.octet(Integer.MIN_VALUE), Pair.NONE);
        if (size > 0) {
            Check.due("octet(" + (size - 1) + ") of " + size, x.octet(size - 1), last);
        }
    }
}
