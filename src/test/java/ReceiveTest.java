/** Promise 13: receive, above all of sealed records that are not as told. */
public final class ReceiveTest {
    private static final byte[] NOTHING = {};

    public static void main(String[] args) {
        otherWiresAndNone();
        inTheirOrder();
        everyBitOfASealedRecord();
        replaysAndReflections();
        lengthsThatLie();
        tooShortToBeSealed();
        kindsThatAreNone();
        requestsThatAreNone();
        requestsThatAre();
        answersByTheirForm();
        overIsOver();
        Check.end();
    }

    private static void otherWiresAndNone() {
        SealedWire x = new SealedWire(51);
        for (int wire : new int[] {-1, 2, Integer.MIN_VALUE, Integer.MAX_VALUE}) {
            Check.due("receive(" + wire + ")", x.receive(wire), Pair.REFUSED);
        }
        Check.due("receive(0) of none", x.receive(0), Pair.NONE);
        Check.due("receive(1) of none", x.receive(1), Pair.NONE);
        Check.due("the client stays IDLE", x.look(0, 0), Pair.IDLE);
        Check.due("the server stays IDLE", x.look(1, 0), Pair.IDLE);
    }

    private static void inTheirOrder() {
        Pair pair = Pair.open(52);
        SealedWire x = pair.wire;
        for (int i = 0; i < 12; i++) {
            pair.name("" + (char) ('a' + i));
            Check.due("request(1)", pair.request(1, Library.bytes(i)), 0);
        }
        for (int i = 0; i < 12; i++) {
            pair.name("" + (char) ('a' + i));
            Check.due("stored() before", x.stored(), Pair.NONE);
            Check.due("receive(0)", x.receive(0), 4);
            Check.due("stored() behind", x.stored(), 1);
            Check.due("the value", x.octet(0), i);
            Check.due("records left", x.count(3), 11 - i);
            Check.due("answers on the wire", x.count(4), i + 1);
        }
    }

    private static void everyBitOfASealedRecord() {
        for (int on = 0; on < 2; on++) {
            int size = on == 0 ? 26 : 24;
            for (int i = 0; i < size; i++) {
                for (int bit = 0; bit < 8; bit += 7) {
                    Pair pair = Pair.open(53);
                    SealedWire x = pair.wire;
                    pair.ask(1, Pair.text("val"));
                    pair.request(on == 0 ? 4 : 0, on == 0 ? Pair.text("abc") : NOTHING);
                    if (on == 1) {
                        x.receive(0);
                    }
                    Check.due("its size", x.wire(on, 0, -1), size);
                    x.flip(on, 0, i, 1 << bit);
                    String what = "receive(" + on + ") with byte " + i + " flipped";
                    Check.due(what, x.receive(on), Pair.FAILED);
                    Check.due(what + ": its state", x.look(1 - on, 0), Pair.BROKEN);
                    Check.due(what + ": it goes", x.count(3 + on), 0);
                    Check.due(what + ": nothing is sent", x.count(4 - on), 0);
                    Check.due(what + ": nothing is done", x.stored(), 3);
                    Check.due(what + ": answers got", x.count(2), 1);
                }
            }
        }
    }

    private static void replaysAndReflections() {
        Pair pair = Pair.open(54);
        SealedWire x = pair.wire;
        x.request(0);
        x.copy(0, 0, 1);
        x.copy(0, 0, 0);
        Check.due("receive(0)", x.receive(0), 4);
        Check.due("receive(0) once more", x.receive(0), Pair.FAILED);
        Check.due("receive(1) of what was for the server", x.receive(1), Pair.FAILED);
        Check.due("the client is FAILED", x.look(0, 0), Pair.BROKEN);
        Check.due("the server is FAILED", x.look(1, 0), Pair.BROKEN);
        renewalOnceMore();
        oneIsLost();
        ofTheGreetingBefore();
    }

    private static void renewalOnceMore() {
        Pair pair = Pair.open(54);
        SealedWire x = pair.wire;
        x.renew(0);
        x.copy(0, 0, 0);
        Check.due("receive(0) of a renewal", x.receive(0), 4);
        Check.due("receive(0) of it once more", x.receive(0), Pair.FAILED);
    }

    private static void oneIsLost() {
        Pair pair = Pair.open(54);
        SealedWire x = pair.wire;
        x.request(0);
        x.request(0);
        x.drop(0, 0);
        Check.due("receive(0) when one is lost", x.receive(0), Pair.FAILED);
    }

    private static void ofTheGreetingBefore() {
        Pair pair = Pair.open(54);
        SealedWire x = pair.wire;
        x.request(0);
        x.idle(0);
        x.idle(1);
        x.greet(0);
        x.hurry(0, 1);
        x.receive(0);
        x.receive(1);
        x.hurry(0, 1);
        Check.due("receive(0) of the new proof", x.receive(0), 3);
        Check.due("receive(0) of what was sealed before", x.receive(0), Pair.FAILED);
    }

    private static void lengthsThatLie() {
        for (int size = 3; size <= 200; size++) {
            Pair pair = Pair.open(55);
            pair.forge(0, Library.join(Library.head(4, size - 3), Library.fill(size - 3, size)));
            Check.due("receive(0) of a forged record of " + size, pair.wire.receive(0), Pair.FAILED);
        }
        for (int more = -1; more <= 1; more++) {
            for (int high = 0; high < 2; high++) {
                Pair pair = Pair.open(55);
                byte[] head = Library.head(4, 256 * high + 20 + more);
                pair.forge(0, Library.join(head, Library.seal(pair.firstKey(0), 0, head, Library.bytes(0, 0, 1, 'n'))));
                boolean well = more == 0 && high == 0;
                Check.due("receive(0), sealed to tell " + (256 * high + 20 + more), pair.wire.receive(0),
                    well ? 4 : Pair.FAILED);
            }
        }
    }

    private static void tooShortToBeSealed() {
        for (int on = 0; on < 2; on++) {
            for (int size = 0; size <= 16; size++) {
                Pair pair = Pair.open(58);
                pair.ask(1, Pair.text("v"));
                pair.forge(on, Library.record(4, new byte[size]));
                Check.due("receive(" + on + ") of " + size + " sealed bytes", pair.wire.receive(on), Pair.FAILED);
                Check.due("nothing is done", pair.wire.count(1) + pair.wire.count(2), 2);
            }
        }
    }

    private static void kindsThatAreNone() {
        for (int on = 0; on < 2; on++) {
            Pair.comes(on, NOTHING, Pair.FAILED);
            Pair.comes(on, Library.bytes(1), 4);
            Pair.comes(on, Library.bytes(2), 4);
            for (int kind = 3; kind < 256; kind += kind < 5 ? 1 : 25) {
                Pair.comes(on, Library.bytes(kind), Pair.FAILED);
            }
            Pair.comes(on, Library.bytes(255), Pair.FAILED);
            for (int kind = 1; kind < 3; kind++) {
                Pair.comes(on, Library.bytes(kind, 0), Pair.FAILED);
                Pair.comes(on, Library.join(Library.bytes(kind), new byte[100]), Pair.FAILED);
            }
        }
    }

    private static byte[] plainRequest(int op, int told, int nameSize, int dataSize) {
        return Library.join(Library.bytes(0, op, told), Library.fill(nameSize, 'k'), Library.fill(dataSize, 'd'));
    }

    private static void requestsThatAreNone() {
        Pair.comes(0, Library.bytes(0), Pair.FAILED);
        for (int op = 0; op < 5; op++) {
            int most = op == 0 || op == 2 ? 0 : 64;
            Pair.comes(0, Library.bytes(0, op), Pair.FAILED);
            Pair.comes(0, plainRequest(op, 0, 0, 0), Pair.FAILED);
            Pair.comes(0, plainRequest(op, 0, 0, 1), Pair.FAILED);
            Pair.comes(0, plainRequest(op, 1, 0, 0), Pair.FAILED);
            Pair.comes(0, plainRequest(op, 16, 15, 0), Pair.FAILED);
            Pair.comes(0, plainRequest(op, 17, 17, 0), Pair.FAILED);
            Pair.comes(0, plainRequest(op, 17, 17, most), Pair.FAILED);
            Pair.comes(0, plainRequest(op, 255, 100, 0), Pair.FAILED);
            Pair.comes(0, plainRequest(op, 1, 1, most + 1), Pair.FAILED);
            Pair.comes(0, plainRequest(op, 16, 16, most + 1), Pair.FAILED);
            Pair.comes(0, plainRequest(op, 16, 16, 160), Pair.FAILED);
        }
        for (int op : new int[] {5, 6, 127, 128, 255}) {
            Pair.comes(0, plainRequest(op, 1, 1, 0), Pair.FAILED);
        }
    }

    private static void requestsThatAre() {
        for (int op = 0; op < 5; op++) {
            int most = op == 0 || op == 2 ? 0 : 64;
            for (int size = 1; size <= 16; size += 15) {
                Pair pair = Pair.comes(0, plainRequest(op, size, size, most), 4);
                int status = op == 1 || op == 3 ? 0 : 1;
                Check.due("its answer", pair.record(1, 0),
                    Library.sealedRecord(pair.firstKey(1), 0, Library.bytes(0, status)));
                Check.due("names", pair.wire.count(0), 1 - status);
                Check.due("requests answered", pair.wire.count(1), 1);
                Check.due("the client's number is behind", pair.wire.look(0, 1), 0);
                Check.due("the server's is not", pair.wire.look(1, 1), 1);
            }
        }
    }

    private static void answersByTheirForm() {
        Pair.comes(1, Library.bytes(0), Pair.FAILED);
        for (int size = 0; size <= 64; size += 8) {
            byte[] value = Library.fill(size, size);
            Pair pair = Pair.comes(1, Library.join(Library.bytes(0, 0), value), 4);
            Check.due("answer() that nobody asked for", pair.wire.answer(), 1 + size);
            Check.due("OUT", pair.out(), Library.join(Library.bytes(0), value));
            Check.due("answers got", pair.wire.count(2), 1);
            Check.due("the number", pair.wire.look(0, 2), 1);
        }
        Pair.comes(1, Library.join(Library.bytes(0, 0), new byte[65]), Pair.FAILED);
        Pair.comes(1, Library.join(Library.bytes(0, 0), new byte[170]), Pair.FAILED);
        for (int status = 1; status < 4; status++) {
            Pair pair = Pair.comes(1, Library.bytes(0, status), 4);
            Check.due("answer()", pair.wire.answer(), 1);
            Check.due("its status", pair.wire.octet(0), status);
            pair = Pair.comes(1, Library.bytes(0, status, 0), Pair.FAILED);
            Check.due("answer() of none", pair.wire.answer(), Pair.NONE);
            Check.due("answers got", pair.wire.count(2), 0);
        }
        for (int status : new int[] {4, 5, 128, 255}) {
            Pair.comes(1, Library.bytes(0, status), Pair.FAILED);
        }
    }

    private static void overIsOver() {
        for (int side = 0; side < 2; side++) {
            for (int state = Pair.CLOSED; state <= Pair.BROKEN; state++) {
                Pair pair = Pair.open(57);
                SealedWire x = pair.wire;
                if (state == Pair.CLOSED) {
                    x.close(side);
                } else {
                    pair.forge(1 - side, Library.bytes(0, 0, 0));
                    x.receive(1 - side);
                }
                pair.crowd(side);
                x.renew(1 - side);
                x.close(1 - side);
                for (int left = 1; left >= 0; left--) {
                    Check.due("receive when it is over", x.receive(1 - side), Pair.FAILED);
                    Check.due("it goes", x.count(4 - side), left);
                    Check.due("the state stays", x.look(side, 0), state);
                }
                Check.due("receive of none", x.receive(1 - side), Pair.NONE);
            }
        }
    }
}
