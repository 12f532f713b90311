/** The boundary sentences on KEYS, and of promises 5 and 6. */
public final class EdgeKeysTest {
    private static final int[] NO_SIDE = {-1, 2, Integer.MIN_VALUE, Integer.MAX_VALUE};
    private static final int[] NO_KEY = {-1, 8, Integer.MIN_VALUE, Integer.MAX_VALUE};

    public static void main(String[] args) {
        noneAtFirst();
        keys0To7OfEachSide();
        keyRefusedForOtherNumbers();
        keyOfAnEmptyAndOfAFullTape();
        keyInPlaceOfOne();
        forgetRefusedForOtherNumbers();
        forgetNoneIfItHasNone();
        forgetWhileOpen();
        Check.end();
    }

    private static void noneAtFirst() {
        Check.sentence("KEYS 0 to 7 of each side: 32 bytes each, or none, as at first");
        SealedWire x = new SealedWire(1);
        for (int side = 0; side < 2; side++) {
            Check.due("keys of side " + side, x.look(side, 5), 0);
            for (int k = 0; k < 8; k++) {
                Check.due("forget(" + side + ", " + k + ")", x.forget(side, k), Pair.NONE);
            }
        }
        for (int k = 0; k < 8; k++) {
            Check.due("greet(" + k + ")", x.greet(k), Pair.NONE);
        }
    }

    private static void keys0To7OfEachSide() {
        Check.sentence("KEYS 0 to 7 of each side");
        SealedWire x = new SealedWire(1);
        for (int side = 0; side < 2; side++) {
            for (int k = 0; k < 8; k++) {
                Check.due("key(" + side + ", " + k + ")", x.key(side, k), 0);
                Check.due("keys of side " + side, x.look(side, 5), k + 1);
                Check.due("keys of the other", x.look(1 - side, 5), side == 0 ? 0 : 8);
            }
        }
    }

    private static void keyRefusedForOtherNumbers() {
        Check.sentence("Key k of a side becomes H of the TAPE: 0. REFUSED for other numbers");
        Pair pair = new Pair(2);
        pair.sameKey(0);
        pair.sameKey(7);
        String before = pair.view();
        for (int k : NO_KEY) {
            for (int side = 0; side < 2; side++) {
                Check.due("key(" + side + ", " + k + ")", pair.wire.key(side, k), Pair.REFUSED);
            }
        }
        for (int side : NO_SIDE) {
            for (int k : new int[] {0, 7, -1, 8}) {
                Check.due("key(" + side + ", " + k + ")", pair.wire.key(side, k), Pair.REFUSED);
            }
        }
        Check.due("behind REFUSED all", pair.view(), before);
        pair.tape(Library.bytes(1));
        pair.wire.key(1, 8);
        pair.tape(Library.bytes(1));
        pair.wire.key(2, 7);
        pair.greetAll(7);
    }

    /** By the reply that the server makes of it. */
    private static void dueKey(Pair pair, int k, byte[] text) {
        pair.wire.key(0, k);
        pair.wire.greet(k);
        pair.wire.receive(0);
        byte[] random = Library.random(1, pair.seed, 0);
        byte[] g = Library.hash(Library.random(0, pair.seed, 0), Library.bytes(k), random);
        byte[] f = Library.mac(Library.mac(Library.hash(text), g), Library.bytes(102));
        Check.due("the reply by a key of " + text.length, pair.record(1, 0),
            Library.record(2, random, Library.mac(f, Library.bytes(115), g)));
    }

    /** 55 bytes are the most that H takes in one block of 64, 119 the most in two, 183 in three. */
    private static void keyOfAnEmptyAndOfAFullTape() {
        Check.sentence("Key k of a side becomes H of the TAPE");
        for (int size : new int[] {0, 1, 55, 56, 63, 64, 65, 119, 120, 127, 128, 183, 184, 191, 192, 199, 200}) {
            Pair pair = new Pair(3);
            byte[] text = Library.fill(size, 200 + size);
            pair.tape(text);
            Check.due("key(1, 7)", pair.wire.key(1, 7), 0);
            dueKey(pair, 7, text);
        }
    }

    private static void keyInPlaceOfOne() {
        Check.sentence("Key k of a side becomes H of the TAPE");
        Pair pair = new Pair(3);
        pair.sameKey(7, 1, 2, 3);
        pair.tape(Library.bytes(4));
        Check.due("key(1, 7) again", pair.wire.key(1, 7), 0);
        Check.due("keys of the server", pair.wire.look(1, 5), 1);
        dueKey(pair, 7, Library.bytes(4));
    }

    private static void forgetRefusedForOtherNumbers() {
        Check.sentence("A side has no key k: 0. REFUSED for other numbers");
        Pair pair = new Pair(4);
        pair.sameKey(0);
        pair.sameKey(7);
        String before = pair.view();
        for (int k : NO_KEY) {
            for (int side = 0; side < 2; side++) {
                Check.due("forget(" + side + ", " + k + ")", pair.wire.forget(side, k), Pair.REFUSED);
            }
        }
        for (int side : NO_SIDE) {
            for (int k : new int[] {0, 7, 1, -1, 8}) {
                Check.due("forget(" + side + ", " + k + ")", pair.wire.forget(side, k), Pair.REFUSED);
            }
        }
        Check.due("behind REFUSED all", pair.view(), before);
    }

    private static void forgetNoneIfItHasNone() {
        Check.sentence("A side has no key k: 0 .. NONE if it has none");
        for (int side = 0; side < 2; side++) {
            for (int k = 0; k < 8; k += 7) {
                Pair pair = new Pair(5);
                pair.wire.key(1 - side, k);
                Check.due("forget of the other's", pair.wire.forget(side, k), Pair.NONE);
                pair.wire.key(side, 7 - k);
                Check.due("forget of another", pair.wire.forget(side, k), Pair.NONE);
                pair.wire.key(side, k);
                Check.due("keys", pair.wire.look(side, 5), 2);
                Check.due("forget(" + side + ", " + k + ")", pair.wire.forget(side, k), 0);
                Check.due("keys behind it", pair.wire.look(side, 5), 1);
                Check.due("forget of what is forgotten", pair.wire.forget(side, k), Pair.NONE);
                Check.due("keys of the other", pair.wire.look(1 - side, 5), 1);
                pair.wire.key(side, k);
                Check.due("forget of what came anew", pair.wire.forget(side, k), 0);
            }
        }
    }

    private static void forgetWhileOpen() {
        Check.sentence("A side has no key k: 0");
        Pair pair = Pair.open(6);
        Check.due("forget(0, 0)", pair.wire.forget(0, 0), 0);
        Check.due("forget(1, 0)", pair.wire.forget(1, 0), 0);
        Check.due("the client is OPEN yet", pair.wire.look(0, 0), Pair.OPEN);
        Check.due("the server is OPEN yet", pair.wire.look(1, 0), Pair.OPEN);
        Check.due("get", pair.ask(0), Library.bytes(1));
    }
}
