/** Promises 11 and 12: renew and close. */
public final class RenewCloseTest {
    public static void main(String[] args) {
        answers();
        renewMakesTheKeyAnew();
        generationsGoOver255();
        renewAndRequestsInOrder();
        renewWithoutReceiving();
        closing();
        bareRecordsNeedNoPlaceBack();
        Check.end();
    }

    private static void answers() {
        Pair pair = new Pair(41);
        SealedWire x = pair.wire;
        for (int side : new int[] {-1, 2, Integer.MIN_VALUE, Integer.MAX_VALUE}) {
            Check.due("renew(" + side + ")", x.renew(side), Pair.REFUSED);
            Check.due("close(" + side + ")", x.close(side), Pair.REFUSED);
        }
        pair.sameKey(0);
        dueOfBoth(x, "IDLE", Pair.WRONG);
        x.greet(0);
        x.receive(0);
        dueOfBoth(x, "GREETED", Pair.WRONG);
        x.receive(1);
        Check.due("renew(1) when the client is OPEN", x.renew(1), Pair.WRONG);
        Check.due("renew(0) when OPEN", x.renew(0), 0);
        x.receive(0);
        x.receive(0);
        pair.crowd(0);
        pair.crowd(1);
        dueOfBoth(x, "OPEN, no place", Pair.FULL);
        Check.due("the number stays", x.look(0, 1) + x.look(1, 2), 0);
        Check.due("the generation stays", x.look(0, 3), 1);
        Check.due("the generation stays", x.look(1, 4), 0);
        Check.due("the client stays OPEN", x.look(0, 0), Pair.OPEN);
        Check.due("the server stays OPEN", x.look(1, 0), Pair.OPEN);
        Check.due("receive(0) of a sort that is none", x.receive(0), Pair.FAILED);
        Check.due("receive(1) of a sort that is none", x.receive(1), Pair.FAILED);
        dueOfBoth(x, "FAILED", Pair.WRONG);
    }

    private static void dueOfBoth(SealedWire x, String state, int want) {
        for (int side = 0; side < 2; side++) {
            Check.due("renew(" + side + ") when " + state, x.renew(side), want);
            Check.due("close(" + side + ") when " + state, x.close(side), want);
        }
    }

    private static void renewMakesTheKeyAnew() {
        for (int d = 0; d < 2; d++) {
            Pair pair = Pair.open(42);
            SealedWire x = pair.wire;
            byte[] key = pair.firstKey(d);
            for (int g = 1; g <= 3; g++) {
                Check.due("renew(" + d + ")", x.renew(d), 0);
                Check.due("its record", pair.record(d, 0), Library.sealedRecord(key, 0, Library.bytes(1)));
                key = Library.nextKey(key, d, g);
                Check.due("the sender's generation", x.look(d, 3 + d), g);
                Check.due("the receiver's generation", x.look(1 - d, 3 + d), g - 1);
                Check.due("the sender's number", x.look(d, 1 + d), 0);
                Check.due("receive(" + d + ")", x.receive(d), 4);
                Check.due("the receiver's generation", x.look(1 - d, 3 + d), g);
                Check.due("the receiver's number", x.look(1 - d, 1 + d), 0);
                Check.due("the other direction", x.look(0, 4 - d) + x.look(1, 4 - d), 0);
            }
            x.close(d);
            Check.due("what comes by the new key", pair.record(d, 0), Library.sealedRecord(key, 0, Library.bytes(2)));
            Check.due("receive(" + d + ")", x.receive(d), 4);
        }
    }

    /** Its record comes with the number of those before it, and the new key starts at number 0. */
    private static void renewAndRequestsInOrder() {
        Pair pair = Pair.open(43);
        SealedWire x = pair.wire;
        pair.ask(1, Pair.text("v"));
        pair.ask(0);
        x.renew(0);
        x.request(0);
        Check.due("the renewal", pair.record(0, 0), Library.sealedRecord(pair.firstKey(0), 2, Library.bytes(1)));
        byte[] next = Library.nextKey(pair.firstKey(0), 0, 1);
        Check.due("what is sent behind it", pair.record(0, 1),
            Library.sealedRecord(next, 0, Library.bytes(0, 0, 1, 'n')));
        Check.due("receive(0)", x.receive(0), 4);
        Check.due("receive(0)", x.receive(0), 4);
        Check.due("the number", x.look(1, 1), 1);
        Check.due("receive(1)", x.receive(1), 4);
        Check.due("answer()", x.answer(), 2);
        Check.due("the server's number goes on", x.look(1, 2), 3);
        x.renew(0);
        x.request(0);
        x.hurry(0, 1);
        Check.due("receive(0) of a key that is not due yet", x.receive(0), Pair.FAILED);
    }

    private static void renewWithoutReceiving() {
        Pair pair = Pair.open(44);
        SealedWire x = pair.wire;
        x.renew(1);
        x.drop(1, 0);
        x.request(0);
        x.receive(0);
        Check.due("receive(1) when the renewal is lost", x.receive(1), Pair.FAILED);
    }

    /** The key takes the lowest byte of the generation; 512 calls are just enough to go over it. */
    private static void generationsGoOver255() {
        SealedWire x = new SealedWire(45);
        x.key(0, 0);
        x.key(1, 0);
        x.greet(0);
        x.receive(0);
        x.receive(1);
        x.receive(0);
        byte[] g = Library.hash(Library.random(0, 45, 0), Library.bytes(0), Library.random(1, 45, 0));
        byte[] key = Library.firstKey(Library.mac(Library.hash(), g), 1);
        for (int made = 1; made <= 256; made++) {
            x.renew(1);
            key = Library.nextKey(key, 1, made & 255);
            if (made > 11) {
                x.drop(1, 0);
            }
        }
        Check.due("the generation", x.look(1, 4), 256);
        Check.due("close(1)", x.close(1), 0);
        byte[] want = Library.sealedRecord(key, 0, Library.bytes(2));
        Check.due("C by generation 256", x.wire(1, 11, 3), want[3] & 255);
        Check.due("T by generation 256", x.wire(1, 11, 19), want[19] & 255);
    }

    private static void closing() {
        for (int side = 0; side < 2; side++) {
            Pair pair = Pair.open(46);
            SealedWire x = pair.wire;
            pair.ask(1, Pair.text("v"));
            Check.due("close(" + side + ")", x.close(side), 0);
            Check.due("its record", pair.record(side, 0),
                Library.sealedRecord(pair.firstKey(side), 1, Library.bytes(2)));
            Check.due("the sender is CLOSED", x.look(side, 0), Pair.CLOSED);
            Check.due("the other is OPEN", x.look(1 - side, 0), Pair.OPEN);
            Check.due("close again", x.close(side), Pair.WRONG);
            Check.due("renew when CLOSED", x.renew(side), Pair.WRONG);
            for (int what = 1; what < 5; what++) {
                Check.due("look(" + side + ", " + what + ") when CLOSED", x.look(side, what), 0);
            }
            Check.due("renew of the other", x.renew(1 - side), 0);
            Check.due("a CLOSED side receives nothing", x.receive(1 - side), Pair.FAILED);
            Check.due("it stays CLOSED", x.look(side, 0), Pair.CLOSED);
            Check.due("what comes goes", x.count(4 - side), 0);
            Check.due("receive of the closing", x.receive(side), 4);
            Check.due("the other is CLOSED", x.look(1 - side, 0), Pair.CLOSED);
            Check.due("close of the other", x.close(1 - side), Pair.WRONG);
            Check.due("the store stays", x.count(0), 1);
        }
    }

    private static void bareRecordsNeedNoPlaceBack() {
        for (int side = 0; side < 2; side++) {
            Pair pair = Pair.open(47);
            SealedWire x = pair.wire;
            pair.crowd(1 - side);
            x.renew(side);
            x.close(side);
            Check.due("receive of a renewal, no place back", x.receive(side), 4);
            Check.due("receive of a closing, no place back", x.receive(side), 4);
            Check.due("the receiver is CLOSED", x.look(1 - side, 0), Pair.CLOSED);
        }
    }
}
