/** Promises 4, 20 and 21: octet, answer and stored. */
public final class OutTest {
    public static void main(String[] args) {
        octetOfAnswer();
        answerIsTheLatest();
        answerStaysUntilOpenAnew();
        storedIsOfTheName();
        outStaysBehindNone();
        Check.end();
    }

    private static void octetOfAnswer() {
        Pair pair = Pair.open(11);
        SealedWire x = pair.wire;
        byte[] value = new byte[64];
        for (int i = 0; i < 64; i++) {
            value[i] = (byte) (200 + i);
        }
        Check.due("put", pair.ask(1, value), Library.bytes(0));
        Check.due("get", pair.ask(0), Library.join(Library.bytes(0), value));
        Check.due("octet(-1)", x.octet(-1), 65);
        Check.due("octet(0)", x.octet(0), 0);
        Check.due("octet(1)", x.octet(1), 200);
        Check.due("octet(56)", x.octet(56), 255);
        Check.due("octet(64)", x.octet(64), (200 + 63) & 255);
        Check.due("octet(65)", x.octet(65), Pair.NONE);
        Check.due("octet(-2)", x.octet(-2), Pair.NONE);
        Check.due("octet(lowest)", x.octet(Integer.MIN_VALUE), Pair.NONE);
        Check.due("octet(highest)", x.octet(Integer.MAX_VALUE), Pair.NONE);
        pair.ask(2);
        Check.due("octet(1) of a shorter one", x.octet(1), Pair.NONE);
        Check.due("octet(-1) of a shorter one", x.octet(-1), 1);
    }

    private static void answerIsTheLatest() {
        Pair pair = Pair.open(12);
        SealedWire x = pair.wire;
        Check.due("answer() before one came", x.answer(), Pair.NONE);
        pair.request(1, Pair.text("v"));
        pair.request(0, new byte[0]);
        x.receive(0);
        x.receive(0);
        Check.due("answer() while they are on the wire", x.answer(), Pair.NONE);
        x.receive(1);
        Check.due("answer() to the put", x.answer(), 1);
        x.receive(1);
        Check.due("OUT before answer()", x.octet(-1), 1);
        Check.due("answer() to the get", x.answer(), 2);
        Check.due("OUT", pair.out(), Library.bytes(0, 'v'));
        Check.due("answer() again", x.answer(), 2);
    }

    private static void answerStaysUntilOpenAnew() {
        Pair pair = Pair.open(13);
        SealedWire x = pair.wire;
        pair.ask(1, Pair.text("value"));
        pair.ask(0);
        x.close(0);
        Check.due("answer() when CLOSED", x.answer(), 6);
        x.idle(0);
        Check.due("answer() when IDLE", x.answer(), 6);
        pair.forge(1, Library.bytes(4, 0, 0));
        Check.due("what is not as told", x.receive(1), Pair.FAILED);
        Check.due("answer() when FAILED", x.answer(), 6);
        x.idle(0);
        x.idle(1);
        pair.empty(0);
        x.greet(0);
        Check.due("answer() when GREETED", x.answer(), 6);
        x.receive(0);
        x.receive(1);
        Check.due("the client is OPEN anew", x.look(0, 0), Pair.OPEN);
        Check.due("answer() when OPEN anew", x.answer(), Pair.NONE);
        Check.due("OUT stays", x.octet(-1), 6);
        x.receive(0);
        Check.due("the next answer", pair.ask(0), Pair.text("\0value"));
    }

    private static void storedIsOfTheName() {
        Pair pair = Pair.open(14);
        SealedWire x = pair.wire;
        pair.ask(1, Pair.text("of n"));
        Check.due("name", pair.name("m"), 1);
        Check.due("stored() of none", x.stored(), Pair.NONE);
        pair.ask(1, new byte[0]);
        Check.due("stored() of 0 bytes", x.stored(), 0);
        Check.due("octet(-1)", x.octet(-1), 0);
        Check.due("octet(0)", x.octet(0), Pair.NONE);
        pair.name("nn");
        Check.due("stored() of a longer name", x.stored(), Pair.NONE);
        pair.name("n");
        Check.due("stored()", x.stored(), 4);
        Check.due("OUT", pair.out(), Pair.text("of n"));
        pair.request(4, Library.fill(60, 'x'));
        Check.due("stored() before the request comes", x.stored(), 4);
        x.receive(0);
        Check.due("stored() before the answer comes", x.stored(), 64);
        Check.due("its last byte", x.octet(63), 'x');
        x.idle(0);
        x.idle(1);
        Check.due("stored() behind idle", x.stored(), 64);
    }

    private static void outStaysBehindNone() {
        Pair pair = Pair.open(15);
        SealedWire x = pair.wire;
        pair.ask(1, Pair.text("abc"));
        Check.due("stored()", x.stored(), 3);
        pair.name("other");
        Check.due("stored() of none", x.stored(), Pair.NONE);
        Check.due("OUT", pair.out(), Pair.text("abc"));
        pair.name("n");
        pair.request(2, new byte[0]);
        x.receive(0);
        Check.due("stored() behind remove", x.stored(), Pair.NONE);
        Check.due("OUT is not the store", pair.out(), Pair.text("abc"));
    }
}
