/** The boundary sentences of promises 22 and 23. */
public final class EdgeLookCountTest {
    public static void main(String[] args) {
        lookRefusedForOtherNumbers();
        idleAsAtFirst();
        lookAtEveryState();
        zeroIfNotOpen();
        keysItHas();
        randomsItHasMade();
        countRefusedForOthers();
        countOfNames();
        countOfRequests();
        countOfAnswers();
        countOfRecords();
        Check.end();
    }

    private static void lookRefusedForOtherNumbers() {
        Check.sentence("look: REFUSED for other numbers");
        Pair pair = Pair.open(1);
        for (int side = 0; side < 2; side++) {
            for (int what : new int[] {-1, 7, Integer.MIN_VALUE, Integer.MAX_VALUE}) {
                Check.due("look(" + side + ", " + what + ")", pair.wire.look(side, what), Pair.REFUSED);
            }
            Check.due("look(" + side + ", 0)", pair.wire.look(side, 0), Pair.OPEN);
            Check.due("look(" + side + ", 6)", pair.wire.look(side, 6), 1);
        }
        for (int side : new int[] {-1, 2, Integer.MIN_VALUE, Integer.MAX_VALUE}) {
            for (int what = -1; what <= 7; what++) {
                Check.due("look(" + side + ", " + what + ")", pair.wire.look(side, what), Pair.REFUSED);
            }
        }
    }

    private static void idleAsAtFirst() {
        Check.sentence("THE CLIENT (side 0) and THE SERVER (side 1) are, each, IDLE, as at first");
        SealedWire x = new SealedWire(1);
        for (int side = 0; side < 2; side++) {
            for (int what = 0; what <= 6; what++) {
                Check.due("look(" + side + ", " + what + ")", x.look(side, what), 0);
            }
        }
    }

    private static void lookAtEveryState() {
        Check.sentence("0: 0 IDLE, 1 GREETED, 2 OPEN, 3 CLOSED, 4 FAILED");
        for (int side = 0; side < 2; side++) {
            for (int state = 0; state <= 4; state++) {
                Check.due("look(" + side + ", 0)", Pair.inState(side, state).wire.look(side, 0), state);
            }
        }
    }

    private static void zeroIfNotOpen() {
        Check.sentence("(0 if not OPEN, in 1 to 4) (so of CLOSED and FAILED, too)");
        for (int side = 0; side < 2; side++) {
            for (int end = 0; end < 4; end++) {
                Pair pair = Pair.open(2);
                for (int d = 0; d < 2; d++) {
                    pair.wire.renew(d);
                    pair.wire.receive(d);
                }
                pair.ask(0);
                for (int what = 1; what <= 4; what++) {
                    Check.due("look(" + side + ", " + what + ") when OPEN", pair.wire.look(side, what), 1);
                }
                int state = end(pair, side, end);
                Check.due("the state", pair.wire.look(side, 0), state);
                for (int what = 1; what <= 4; what++) {
                    Check.due("look(" + side + ", " + what + ") in state " + state, pair.wire.look(side, what), 0);
                }
                Check.due("keys it has", pair.wire.look(side, 5), 1);
                Check.due("randoms it has made", pair.wire.look(side, 6), 1);
            }
        }
        Pair greeted = Pair.inState(0, Pair.OPEN);
        greeted.wire.renew(0);
        greeted.wire.idle(0);
        greeted.wire.greet(0);
        Check.due("the generation of one that is GREETED anew", greeted.wire.look(0, 3), 0);
    }

    private static int end(Pair pair, int side, int how) {
        if (how == 0) {
            pair.wire.idle(side);
            return Pair.IDLE;
        }
        if (how == 1) {
            pair.wire.close(side);
            return Pair.CLOSED;
        }
        if (how == 2) {
            pair.wire.close(1 - side);
            pair.wire.receive(1 - side);
            return Pair.CLOSED;
        }
        pair.forge(1 - side, Library.bytes(0, 0, 0));
        pair.wire.receive(1 - side);
        return Pair.BROKEN;
    }

    private static void keysItHas() {
        Check.sentence("5: keys it has");
        for (int side = 0; side < 2; side++) {
            SealedWire x = new SealedWire(3);
            for (int k = 0; k < 8; k++) {
                Check.due("keys before", x.look(side, 5), k);
                x.key(side, k);
            }
            Check.due("keys, all", x.look(side, 5), 8);
            x.key(side, 8);
            x.key(side, 0);
            Check.due("keys, all", x.look(side, 5), 8);
            x.forget(side, 0);
            x.forget(side, 0);
            Check.due("keys, one forgotten", x.look(side, 5), 7);
            x.forget(side, 7);
            Check.due("keys, two forgotten", x.look(side, 5), 6);
        }
    }

    private static void randomsItHasMade() {
        Check.sentence("6: randoms it has made");
        Pair pair = new Pair(4);
        pair.sameKey(0);
        for (int made = 0; made < 3; made++) {
            Check.due("the client's before", pair.wire.look(0, 6), made);
            pair.wire.greet(0);
            Check.due("the client's", pair.wire.look(0, 6), made + 1);
            Check.due("the server's before", pair.wire.look(1, 6), made);
            pair.wire.receive(0);
            Check.due("the server's", pair.wire.look(1, 6), made + 1);
            pair.wire.receive(1);
            pair.wire.receive(0);
            Check.due("the proof needs none", pair.wire.look(0, 6) + pair.wire.look(1, 6), 2 * made + 2);
            pair.wire.idle(0);
            pair.wire.idle(1);
        }
    }

    private static void countRefusedForOthers() {
        Check.sentence("count: REFUSED for others");
        Pair pair = Pair.open(5);
        for (int what : new int[] {-1, 5, 6, Integer.MIN_VALUE, Integer.MAX_VALUE}) {
            Check.due("count(" + what + ")", pair.wire.count(what), Pair.REFUSED);
        }
        for (int what = 0; what <= 4; what++) {
            Check.due("count(" + what + ")", pair.wire.count(what), 0);
        }
    }

    private static void countOfNames() {
        Check.sentence("What 0: names in the store");
        Pair pair = Pair.open(6);
        for (int i = 0; i < 21; i++) {
            pair.name("" + (char) i);
            pair.ask(3, Library.bytes(i));
            Check.due("names", pair.wire.count(0), Math.min(i + 1, 20));
        }
        pair.ask(2);
        Check.due("names, one removed that is none", pair.wire.count(0), 20);
        pair.name("\0");
        pair.ask(2);
        Check.due("names, one removed", pair.wire.count(0), 19);
        pair.wire.idle(1);
        Check.due("names behind idle", pair.wire.count(0), 19);
    }

    private static void countOfRequests() {
        Check.sentence("1: requests that were answered .. since all was made");
        Pair pair = Pair.open(7);
        pair.wire.request(0);
        Check.due("one is sent", pair.wire.count(1), 0);
        pair.crowd(1);
        pair.wire.receive(0);
        Check.due("one has no place for its answer", pair.wire.count(1), 0);
        pair.empty(1);
        pair.wire.receive(0);
        Check.due("one is answered", pair.wire.count(1), 1);
        pair.wire.drop(1, 0);
        Check.due("its answer is lost", pair.wire.count(1), 1);
        pair.wire.renew(0);
        pair.wire.receive(0);
        Check.due("a renewal is no request", pair.wire.count(1), 1);
        pair.wire.request(0);
        pair.wire.flip(0, 0, 3, 1);
        pair.wire.receive(0);
        Check.due("one is not as told", pair.wire.count(1), 1);
        pair.wire.idle(0);
        pair.wire.idle(1);
        pair.greetAll(0);
        pair.ask(0);
        Check.due("one more behind another greeting", pair.wire.count(1), 2);
    }

    private static void countOfAnswers() {
        Check.sentence("2: answers got (both since all was made)");
        Pair pair = Pair.open(8);
        pair.wire.request(0);
        pair.wire.receive(0);
        Check.due("one is sent", pair.wire.count(2), 0);
        pair.wire.receive(1);
        Check.due("one is got", pair.wire.count(2), 1);
        pair.wire.renew(1);
        pair.wire.receive(1);
        Check.due("a renewal is no answer", pair.wire.count(2), 1);
        pair.wire.request(0);
        pair.wire.receive(0);
        pair.wire.flip(1, 0, 3, 1);
        pair.wire.receive(1);
        Check.due("one is not as told", pair.wire.count(2), 1);
        pair.wire.idle(0);
        pair.wire.idle(1);
        pair.greetAll(0);
        Check.due("behind another greeting", pair.wire.count(2), 1);
        pair.ask(0);
        Check.due("one more", pair.wire.count(2), 2);
    }

    private static void countOfRecords() {
        Check.sentence("3, 4: records on wires 0, 1");
        for (int on = 0; on < 2; on++) {
            Pair pair = new Pair(9);
            for (int k = 0; k < 12; k++) {
                Check.due("records", pair.wire.count(3 + on), k);
                pair.crowd(on, k + 1);
            }
            Check.due("records", pair.wire.count(3 + on), 12);
            pair.forge(on, new byte[3]);
            Check.due("records, FULL", pair.wire.count(3 + on), 12);
            Check.due("records on the other", pair.wire.count(4 - on), 0);
            pair.wire.receive(on);
            Check.due("records, one received", pair.wire.count(3 + on), 11);
        }
    }
}
