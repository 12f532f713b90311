/** Promises 2 and 3: feed and end, and which calls empty the tape. */
public final class TapeTest {
    public static void main(String[] args) {
        feedPutsHighestFirst();
        feedUpToFull();
        fullAtTheEdge();
        endCuts();
        readersEmptyIt();
        othersLeaveIt();
        Check.end();
    }

    private static void feedPutsHighestFirst() {
        SealedWire x = new SealedWire(1);
        Check.due("feed", x.feed(0x01020304, 0x85060708, 0xff0a0b0c, -2, 0x7f000080), 20);
        Check.due("feed", x.feed(0x11121314, 0, 0, 0, 0x21222324), 40);
        Check.due("forge(0)", x.forge(0), 40);
        int[] want = {1, 2, 3, 4, 0x85, 6, 7, 8, 255, 10, 11, 12, 255, 255, 255, 254, 127, 0, 0, 128,
            0x11, 0x12, 0x13, 0x14, 0, 0, 0, 0, 0, 0, 0, 0, 0, 0, 0, 0, 0x21, 0x22, 0x23, 0x24};
        for (int i = 0; i < want.length; i++) {
            Check.due("byte " + i + " of the tape", x.wire(0, 0, i), want[i]);
        }
    }

    private static void feedUpToFull() {
        SealedWire x = new SealedWire(1);
        for (int i = 1; i <= 10; i++) {
            Check.due("feed " + i, x.feed(i, i, i, i, i), 20 * i);
        }
        Check.due("feed 11", x.feed(99, 99, 99, 99, 99), Pair.FULL);
        Check.due("forge(1) of 200", x.forge(1), 200);
        Check.due("its last byte", x.wire(1, 0, 199), 10);
        Check.due("feed behind it", x.feed(0, 0, 0, 0, 0), 20);
    }

    private static void fullAtTheEdge() {
        SealedWire x = new SealedWire(1);
        for (int i = 0; i < 10; i++) {
            x.feed(0, 0, 0, 0, 0);
        }
        Check.due("end(181)", x.end(181), 181);
        Check.due("feed to 201", x.feed(-1, -1, -1, -1, -1), Pair.FULL);
        Check.due("end(182) behind FULL", x.end(182), Pair.REFUSED);
        Check.due("end(180)", x.end(180), 180);
        Check.due("feed to 200", x.feed(0x63000000, 0, 0, 0, 0x64), 200);
        Check.due("forge(0)", x.forge(0), 200);
        Check.due("byte 179", x.wire(0, 0, 179), 0);
        Check.due("byte 180", x.wire(0, 0, 180), 0x63);
        Check.due("byte 199", x.wire(0, 0, 199), 0x64);
    }

    private static void endCuts() {
        SealedWire x = new SealedWire(1);
        Check.due("end(0)", x.end(0), 0);
        Check.due("end(1) of none", x.end(1), Pair.REFUSED);
        x.feed(0x01020304, 0x05060708, 0, 0, 9);
        Check.due("end(21)", x.end(21), Pair.REFUSED);
        Check.due("end(-1)", x.end(-1), Pair.REFUSED);
        Check.due("end(lowest)", x.end(Integer.MIN_VALUE), Pair.REFUSED);
        Check.due("end(highest)", x.end(Integer.MAX_VALUE), Pair.REFUSED);
        Check.due("end(20)", x.end(20), 20);
        Check.due("end(6)", x.end(6), 6);
        Check.due("end(7)", x.end(7), Pair.REFUSED);
        Check.due("feed behind a cut", x.feed(0x0a0b0c0d, 0, 0, 0, 0), 26);
        Check.due("forge(0)", x.forge(0), 26);
        int[] want = {1, 2, 3, 4, 5, 6, 10, 11, 12, 13, 0};
        for (int i = 0; i < want.length; i++) {
            Check.due("byte " + i, x.wire(0, 0, i), want[i]);
        }
        x.feed(1, 2, 3, 4, 5);
        Check.due("end(0) of some", x.end(0), 0);
        Check.due("it has none then", x.end(1), Pair.REFUSED);
    }

    private static void dueEmpty(SealedWire x, String behind) {
        Check.due("the tape is empty behind " + behind, x.end(1), Pair.REFUSED);
        x.end(0);
    }

    private static void readersEmptyIt() {
        Pair pair = Pair.open(4);
        SealedWire x = pair.wire;
        x.feed(1, 2, 3, 4, 5);
        Check.due("key", x.key(0, 1), 0);
        dueEmpty(x, "key");
        x.feed(1, 2, 3, 4, 5);
        Check.due("key(2, 0)", x.key(2, 0), Pair.REFUSED);
        dueEmpty(x, "key REFUSED for its side");
        x.feed(1, 2, 3, 4, 5);
        Check.due("key(0, 8)", x.key(0, 8), Pair.REFUSED);
        dueEmpty(x, "key REFUSED for its number");
        Check.due("name", pair.name("abc"), 3);
        dueEmpty(x, "name");
        x.feed(1, 2, 3, 4, 5);
        Check.due("name of 20", x.name(), Pair.REFUSED);
        dueEmpty(x, "name REFUSED");
        x.feed(1, 2, 3, 4, 5);
        Check.due("request(1)", x.request(1), 0);
        dueEmpty(x, "request");
        x.feed(1, 2, 3, 4, 5);
        Check.due("request(0) with bytes", x.request(0), Pair.REFUSED);
        dueEmpty(x, "request REFUSED");
        x.feed(1, 2, 3, 4, 5);
        Check.due("request(5)", x.request(5), Pair.REFUSED);
        dueEmpty(x, "request REFUSED for its op");
        x.feed(1, 2, 3, 4, 5);
        Check.due("forge(1)", x.forge(1), 20);
        dueEmpty(x, "forge");
        x.feed(1, 2, 3, 4, 5);
        Check.due("forge(2)", x.forge(2), Pair.REFUSED);
        dueEmpty(x, "forge REFUSED");
        pair.tape(Library.bytes(1, 2));
        Check.due("forge of 2", x.forge(0), Pair.REFUSED);
        dueEmpty(x, "forge REFUSED for its size");
        readersEmptyItWhenFull(pair);
    }

    private static void readersEmptyItWhenFull(Pair pair) {
        SealedWire x = pair.wire;
        pair.crowd(0);
        x.feed(1, 2, 3, 4, 5);
        Check.due("request, FULL", x.request(1), Pair.FULL);
        dueEmpty(x, "request FULL");
        x.feed(1, 2, 3, 4, 5);
        Check.due("forge, FULL", x.forge(0), Pair.FULL);
        dueEmpty(x, "forge FULL");
        x.idle(0);
        x.feed(1, 2, 3, 4, 5);
        Check.due("request, WRONG", x.request(1), Pair.WRONG);
        dueEmpty(x, "request WRONG");
    }

    private static void othersLeaveIt() {
        Pair pair = Pair.open(4);
        SealedWire x = pair.wire;
        x.feed(1, 2, 3, 4, 0x01020305);
        x.octet(0);
        x.forget(0, 0);
        x.forget(0, 0);
        x.renew(0);
        x.receive(0);
        x.renew(1);
        x.wire(1, 0, 0);
        x.flip(1, 0, 0, 0);
        x.copy(1, 0, 0);
        x.hurry(1, 0);
        x.drop(1, 0);
        x.answer();
        x.stored();
        x.look(0, 0);
        x.count(0);
        x.close(0);
        x.idle(0);
        x.greet(0);
        Check.due("end(21)", x.end(21), Pair.REFUSED);
        Check.due("end(20)", x.end(20), 20);
        Check.due("forge(1)", x.forge(1), 20);
        Check.due("its last byte", x.wire(1, 0, 19), 5);
    }
}
