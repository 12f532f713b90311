import java.util.Arrays;

/** The boundary sentences on what is RECEIVED, and of promise 13. */
public final class EdgeReceivedTest {
    private static final byte[] NOTHING = {};

    public static void main(String[] args) {
        refusedForAnotherWire();
        noneIfItHasNone();
        anotherSort();
        anotherState();
        anotherLengthThanTold();
        anotherMac();
        anotherT();
        tooShortForAKindAndT();
        aKindThatIsNone();
        dataOfKind1Or2();
        aRequestThatIsNone();
        anAnswerThatIsNone();
        failedSendsNothing();
        closedAndFailedReceiveNothing();
        fullIfItWouldHaveToSend();
        noPlaceNeededWhereNothingIsSent();
        failedBeforeFull();
        theFirstIsReceived();
        Check.end();
    }

    private static void refusedForAnotherWire() {
        Check.sentence("receive: REFUSED for another wire");
        Pair pair = Pair.open(1);
        pair.wire.renew(0);
        pair.wire.renew(1);
        String before = pair.view();
        for (int wire : new int[] {-1, 2, Integer.MIN_VALUE, Integer.MAX_VALUE}) {
            Check.due("receive(" + wire + ")", pair.wire.receive(wire), Pair.REFUSED);
        }
        Check.due("behind REFUSED all", pair.view(), before);
        Check.due("receive(0)", pair.wire.receive(0), 4);
        Check.due("receive(1)", pair.wire.receive(1), 4);
    }

    private static void noneIfItHasNone() {
        Check.sentence("receive: NONE if it has none");
        for (int side = 0; side < 2; side++) {
            for (int state = Pair.IDLE; state <= Pair.BROKEN; state++) {
                Pair pair = Pair.inState(side, state);
                pair.crowd(side, 1);
                String before = pair.view();
                Check.due("receive in state " + state, pair.wire.receive(1 - side), Pair.NONE);
                Check.due("behind NONE all", pair.view(), before);
            }
        }
    }

    /** The state of the receiver becomes FAILED, the record goes, and nothing else happens. */
    private static void dueFailed(String what, Pair pair, int on) {
        int side = 1 - on;
        int state = pair.wire.look(side, 0);
        int left = pair.wire.count(3 + on);
        int sent = pair.wire.count(4 - on);
        int other = pair.wire.look(on, 0);
        Check.due(what, pair.wire.receive(on), Pair.FAILED);
        Check.due(what + ": the receiver", pair.wire.look(side, 0), state == Pair.CLOSED ? state : Pair.BROKEN);
        Check.due(what + ": the record goes", pair.wire.count(3 + on), left - 1);
        Check.due(what + ": what is sent", pair.wire.count(4 - on), sent);
        Check.due(what + ": the other side", pair.wire.look(on, 0), other);
    }

    private static void anotherSort() {
        Check.sentence("RECEIVED what is not as told (another sort");
        for (int side = 0; side < 2; side++) {
            for (int state = Pair.IDLE; state <= Pair.BROKEN; state++) {
                for (int sort : new int[] {0, 5, 127, 128, 129, 130, 131, 132, 255}) {
                    Pair pair = Pair.inState(side, state);
                    pair.forge(1 - side, Library.record(sort, new byte[33]));
                    dueFailed("sort " + sort + " in state " + state, pair, 1 - side);
                }
            }
        }
        sortsOfTheOtherSide();
    }

    /** Sorts 1 and 3 are for the server, 2 is for the client. */
    private static void sortsOfTheOtherSide() {
        Pair pair = new Pair(2);
        pair.sameKey(0);
        pair.wire.greet(0);
        pair.wire.copy(0, 0, 1);
        pair.wire.receive(0);
        dueFailed("a greeting to the client, GREETED", pair, 1);
        pair.wire.idle(0);
        pair.wire.idle(1);
        pair.empty(1);
        pair.wire.greet(0);
        pair.wire.receive(0);
        pair.wire.copy(1, 0, 0);
        dueFailed("a reply to the server, GREETED", pair, 0);
        pair.wire.receive(1);
        pair.wire.copy(0, 0, 1);
        dueFailed("a proof to the client, OPEN", pair, 1);
        pair.wire.idle(0);
        pair.forge(1, Library.record(1, new byte[33]));
        dueFailed("a greeting to the client, IDLE", pair, 1);
    }

    private static void anotherState() {
        Check.sentence("RECEIVED what is not as told (.. state");
        Pair early = new Pair(3);
        early.sameKey(0);
        early.wire.greet(0);
        early.wire.receive(0);
        early.wire.receive(1);
        early.wire.request(0);
        early.wire.hurry(0, 1);
        dueFailed("a sealed record to the server, GREETED", early, 0);
        for (int side = 0; side < 2; side++) {
            Pair pair = Pair.open(3);
            pair.wire.renew(1 - side);
            pair.wire.idle(side);
            dueFailed("a sealed record to side " + side + ", IDLE", pair, 1 - side);
        }
        Pair late = Pair.open(3);
        late.wire.renew(1);
        late.wire.idle(0);
        late.wire.greet(0);
        dueFailed("a sealed record to the client, GREETED", late, 1);
        Pair again = Pair.open(3);
        again.wire.idle(0);
        again.wire.greet(0);
        dueFailed("a greeting to the server, OPEN", again, 0);
    }

    /** The record as it stands before the step, 0 to 3 of the greeting and then a sealed one to each side. */
    private static Pair before(int step) {
        Pair pair = new Pair(4);
        pair.sameKey(0);
        pair.wire.greet(0);
        for (int done = 0; done < step && done < 3; done++) {
            pair.wire.receive(done % 2);
        }
        if (step >= 3) {
            pair.wire.request(0);
        }
        if (step == 4) {
            pair.wire.receive(0);
        }
        return pair;
    }

    private static int wireOf(int step) {
        return step == 1 || step == 4 ? 1 : 0;
    }

    private static void anotherLengthThanTold() {
        Check.sentence("RECEIVED what is not as told (.. how many bytes; also if its second and third bytes tell another length");
        for (int step = 0; step < 5; step++) {
            int on = wireOf(step);
            for (int more : new int[] {-2, -1, 1, 2}) {
                Pair pair = before(step);
                byte[] record = pair.record(on, 0);
                pair.wire.drop(on, 0);
                pair.forge(on, Arrays.copyOf(record, record.length + more));
                dueFailed("step " + step + " with " + more + " bytes more than told", pair, on);
            }
            for (int bits : new int[] {1, 128}) {
                for (int i = 1; i <= 2; i++) {
                    Pair pair = before(step);
                    pair.wire.flip(on, 0, i, bits);
                    dueFailed("step " + step + " with another byte " + i, pair, on);
                }
            }
            Pair pair = before(step);
            Check.due("step " + step + " as it is", pair.wire.receive(on), step == 4 ? 4 : step + 1);
        }
        for (int side = 0; side < 2; side++) {
            Pair pair = Pair.open(4);
            pair.forge(1 - side, Library.bytes(4, 0, 0));
            dueFailed("a record of 3 bytes", pair, 1 - side);
        }
    }

    private static void anotherMac() {
        Check.sentence("RECEIVED what is not as told (.. MAC");
        for (int i : new int[] {35, 50, 66}) {
            Pair pair = before(1);
            pair.wire.flip(1, 0, i, i == 50 ? 128 : 1);
            dueFailed("a reply with another byte " + i, pair, 1);
        }
        for (int i : new int[] {3, 18, 34}) {
            Pair pair = before(2);
            pair.wire.flip(0, 0, i, i == 18 ? 128 : 1);
            dueFailed("a proof with another byte " + i, pair, 0);
        }
    }

    private static void anotherT() {
        Check.sentence("RECEIVED what is not as told (.. T");
        for (int step = 3; step < 5; step++) {
            int on = wireOf(step);
            int size = before(step).wire.wire(on, 0, -1);
            for (int i : new int[] {size - 16, size - 8, size - 1}) {
                for (int bits : new int[] {1, 128}) {
                    Pair pair = before(step);
                    pair.wire.flip(on, 0, i, bits);
                    dueFailed("a sealed record with another byte " + i, pair, on);
                }
            }
        }
    }

    private static void tooShortForAKindAndT() {
        Check.sentence("x is a byte KIND and its data");
        for (int on = 0; on < 2; on++) {
            for (int size : new int[] {0, 1, 15, 16, 17}) {
                Pair pair = Pair.open(5);
                pair.forge(on, Library.record(4, new byte[size]));
                dueFailed("a BODY of " + size, pair, on);
            }
            Pair.comes(on, NOTHING, Pair.FAILED);
            Pair.comes(on, Library.bytes(1), 4);
        }
    }

    private static void aKindThatIsNone() {
        Check.sentence("RECEIVED what is not as told (.. a KIND that is none");
        for (int on = 0; on < 2; on++) {
            Pair.comes(on, Library.bytes(2), 4);
            for (int kind : new int[] {3, 4, 127, 128, 254, 255}) {
                Pair.comes(on, Library.bytes(kind), Pair.FAILED);
                Pair.comes(on, Library.bytes(kind, 0, 1, 110), Pair.FAILED);
            }
        }
    }

    private static void dataOfKind1Or2() {
        Check.sentence("RECEIVED what is not as told (.. data of kind 1 or 2");
        for (int on = 0; on < 2; on++) {
            for (int kind = 1; kind <= 2; kind++) {
                Pair pair = Pair.comes(on, Library.bytes(kind), 4);
                Check.due("the receiver", pair.wire.look(1 - on, 0), kind == 1 ? Pair.OPEN : Pair.CLOSED);
                Check.due("its generation", pair.wire.look(1 - on, 3 + on), kind == 1 ? 1 : 0);
                Pair.comes(on, Library.bytes(kind, 0), Pair.FAILED);
                Pair.comes(on, Library.bytes(kind, 0, 1, 110), Pair.FAILED);
                Pair.comes(on, Library.join(Library.bytes(kind), new byte[180]), Pair.FAILED);
            }
        }
    }

    private static void aRequestThatIsNone() {
        Check.sentence("RECEIVED what is not as told (.. a request .. that is none");
        Pair.comes(0, Library.bytes(0), Pair.FAILED);
        Pair.comes(0, Library.bytes(0, 0), Pair.FAILED);
        Pair.comes(0, Library.bytes(0, 0, 1), Pair.FAILED);
        Pair.comes(0, Library.bytes(0, 0, 1, 110), 4);
        // An answer is no request.
        Pair.comes(0, Library.bytes(0, 1), Pair.FAILED);
    }

    private static void anAnswerThatIsNone() {
        Check.sentence("RECEIVED what is not as told (.. answer that is none");
        Pair.comes(1, Library.bytes(0), Pair.FAILED);
        Pair.comes(1, Library.bytes(0, 0), 4);
        // A request, as an answer, has STATUS 1 and bytes.
        Pair.comes(1, Library.bytes(0, 1, 1, 110), Pair.FAILED);
    }

    private static void failedSendsNothing() {
        Check.sentence("the receiver is FAILED; sends nothing");
        Pair pair = Pair.open(6);
        pair.ask(1, Library.bytes(1));
        pair.request(1, Library.bytes(2, 2));
        pair.wire.flip(0, 0, 3, 1);
        String before = pair.view();
        int size = pair.wire.wire(0, 0, -1);
        Check.due("receive(0)", pair.wire.receive(0), Pair.FAILED);
        String gone = before.replaceAll("wire 0 \\[[^]]*\\]", "wire 0").replace("counts 1 1 1 1 0", "counts 1 1 1 0 0");
        Check.due("what it had", size, 25);
        Check.due("all else", pair.view(), gone.replace(" 2 1 1 0 0 1 1 counts", " 4 0 0 0 0 1 1 counts"));
        Check.due("the store stays", pair.wire.stored(), 1);
    }

    private static void closedAndFailedReceiveNothing() {
        Check.sentence("CLOSED and FAILED sides receive nothing more: what comes goes");
        for (int side = 0; side < 2; side++) {
            for (int state = Pair.CLOSED; state <= Pair.BROKEN; state++) {
                Pair pair = Pair.inState(side, state);
                int on = 1 - side;
                pair.wire.close(on);
                pair.forge(on, Library.record(side == 1 ? 1 : 2, new byte[side == 1 ? 33 : 64]));
                pair.crowd(on);
                pair.crowd(side);
                for (int left = 11; left >= 0; left--) {
                    Check.due("receive in state " + state, pair.wire.receive(on), Pair.FAILED);
                    Check.due("what comes goes", pair.wire.count(3 + on), left);
                    Check.due("the state stays", pair.wire.look(side, 0), state);
                }
                Check.due("receive of none", pair.wire.receive(on), Pair.NONE);
                Check.due("nothing is sent", pair.wire.count(3 + side), 12);
            }
        }
    }

    private static void fullIfItWouldHaveToSend() {
        Check.sentence("FULL if it would have to send, and can not (then the record stays, and nothing is done)");
        for (int op = 0; op < 5; op++) {
            Pair pair = Pair.open(7);
            pair.request(op, op == 0 || op == 2 ? NOTHING : Library.bytes(1));
            pair.crowd(1);
            String before = pair.view();
            Check.due("receive(0), 12 on the other", pair.wire.receive(0), Pair.FULL);
            Check.due("receive(0), 12 on the other, again", pair.wire.receive(0), Pair.FULL);
            Check.due("behind FULL all", pair.view(), before);
            Check.due("stored()", pair.wire.stored(), Pair.NONE);
            pair.wire.drop(1, 11);
            Check.due("receive(0), 11 on the other", pair.wire.receive(0), 4);
            Check.due("the answer comes last", pair.wire.wire(1, 11, -1), 21);
            Check.due("the request goes", pair.wire.count(3), 0);
            Check.due("requests that were answered", pair.wire.count(1), 1);
        }
    }

    private static void noPlaceNeededWhereNothingIsSent() {
        Check.sentence("In all other cases the record goes");
        Pair proof = before(2);
        proof.crowd(1);
        Check.due("receive(0) of a proof, 12 on the other", proof.wire.receive(0), 3);
        Pair answer = before(4);
        answer.crowd(0);
        Check.due("receive(1) of an answer, 12 on the other", answer.wire.receive(1), 4);
        for (int side = 0; side < 2; side++) {
            Pair pair = Pair.open(8);
            pair.wire.renew(side);
            pair.wire.close(side);
            pair.crowd(1 - side);
            Check.due("receive of a renewal, 12 on the other", pair.wire.receive(side), 4);
            Check.due("receive of a closing, 12 on the other", pair.wire.receive(side), 4);
            Check.due("both go", pair.wire.count(3 + side), 0);
        }
    }

    /** What is not as told sends nothing, so it never has to wait for a place. */
    private static void failedBeforeFull() {
        Check.sentence("FAILED if the receiver FAILED by it .. FULL if it would have to send");
        Pair greeting = before(0);
        greeting.wire.flip(0, 0, 35, 8);
        greeting.crowd(1);
        dueFailed("a greeting by no key, 12 on the other", greeting, 0);
        Pair reply = before(1);
        reply.wire.flip(1, 0, 66, 1);
        reply.crowd(0);
        dueFailed("a reply with another MAC, 12 on the other", reply, 1);
        Pair request = before(3);
        request.wire.flip(0, 0, 5, 1);
        request.crowd(1);
        dueFailed("a request with another C, 12 on the other", request, 0);
        Pair none = Pair.open(9);
        none.forge(0, Library.sealedRecord(none.firstKey(0), 0, Library.bytes(0, 5, 1, 110)));
        none.crowd(1);
        dueFailed("a request that is none, 12 on the other", none, 0);
    }

    private static void theFirstIsReceived() {
        Check.sentence("The first record of a wire is received: its SORT, if all was well");
        Pair pair = new Pair(10);
        pair.sameKey(0);
        Check.due("greet(0)", pair.wire.greet(0), 0);
        pair.crowd(0);
        Check.due("receive(0), the first of 12", pair.wire.receive(0), 1);
        Check.due("the others stay", pair.wire.count(3), 11);
        Check.due("the next is first then", pair.wire.wire(0, 0, 0), 9);
        dueFailed("the next", pair, 0);
    }
}
