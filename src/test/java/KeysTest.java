import java.util.Arrays;

/** Promises 5 and 6: key and forget. */
public final class KeysTest {
    public static void main(String[] args) {
        keyIsHashOfTheTape();
        everyKeyOfEachSide();
        otherNumbers();
        forgetting();
        Check.end();
    }

    /** Every size of the tape: where the padding of H needs another block, too. */
    private static void keyIsHashOfTheTape() {
        byte[] text = new byte[200];
        for (int i = 0; i < text.length; i++) {
            text[i] = (byte) (i * 37 + 5);
        }
        for (int size = 0; size <= 200; size++) {
            Pair pair = new Pair(size);
            byte[] part = Arrays.copyOf(text, size);
            pair.tape(Library.bytes(1));
            pair.wire.key(0, 2);
            pair.tape(part);
            Check.due("key(1, 2) of " + size, pair.wire.key(1, 2), 0);
            pair.wire.greet(2);
            byte[] first = Arrays.copyOfRange(pair.record(0, 0), 3, 36);
            pair.wire.receive(0);
            byte[] random = Library.random(1, size, 0);
            byte[] g = Library.hash(first, random);
            byte[] f = Library.mac(Library.mac(Library.hash(part), g), Library.bytes(102));
            Check.due("the reply by a key of " + size, pair.record(1, 0),
                Library.record(2, random, Library.mac(f, Library.bytes(115), g)));
        }
    }

    private static void everyKeyOfEachSide() {
        SealedWire x = new SealedWire(2);
        for (int k = 0; k < 8; k++) {
            Check.due("greet(" + k + ") without", x.greet(k), Pair.NONE);
            x.feed(k, 0, 0, 0, 0);
            Check.due("key(0, " + k + ")", x.key(0, k), 0);
            Check.due("keys of the client", x.look(0, 5), k + 1);
            Check.due("keys of the server", x.look(1, 5), 0);
        }
        x.feed(0, 0, 0, 0, 0);
        Check.due("key(1, 7)", x.key(1, 7), 0);
        Check.due("keys of the server", x.look(1, 5), 1);
        Check.due("key(1, 7) again", x.key(1, 7), 0);
        Check.due("keys of the server", x.look(1, 5), 1);
        for (int k = 0; k < 8; k++) {
            Pair pair = new Pair(k);
            for (int j = 0; j < 8; j++) {
                pair.sameKey(j, j, 1);
            }
            Check.due("greet(" + k + ")", pair.wire.greet(k), 0);
            Check.due("receive(0)", pair.wire.receive(0), 1);
            Check.due("receive(1)", pair.wire.receive(1), 2);
            Check.due("receive(0)", pair.wire.receive(0), 3);
        }
    }

    private static void otherNumbers() {
        SealedWire x = new SealedWire(2);
        for (int side : new int[] {-1, 2, 3, Integer.MIN_VALUE, Integer.MAX_VALUE}) {
            Check.due("key(" + side + ", 0)", x.key(side, 0), Pair.REFUSED);
            Check.due("forget(" + side + ", 0)", x.forget(side, 0), Pair.REFUSED);
        }
        for (int k : new int[] {-1, 8, 9, Integer.MIN_VALUE, Integer.MAX_VALUE}) {
            for (int side = 0; side < 2; side++) {
                Check.due("key(" + side + ", " + k + ")", x.key(side, k), Pair.REFUSED);
                Check.due("forget(" + side + ", " + k + ")", x.forget(side, k), Pair.REFUSED);
            }
        }
        Check.due("keys of the client", x.look(0, 5), 0);
        Check.due("keys of the server", x.look(1, 5), 0);
    }

    private static void forgetting() {
        Pair pair = new Pair(5);
        SealedWire x = pair.wire;
        for (int k = 0; k < 8; k++) {
            pair.sameKey(k, k);
        }
        Check.due("forget(0, 3)", x.forget(0, 3), 0);
        Check.due("forget(0, 3) again", x.forget(0, 3), Pair.NONE);
        Check.due("keys of the client", x.look(0, 5), 7);
        Check.due("keys of the server", x.look(1, 5), 8);
        Check.due("greet(3)", x.greet(3), Pair.NONE);
        Check.due("forget(1, 7)", x.forget(1, 7), 0);
        Check.due("keys of the server", x.look(1, 5), 7);
        x.greet(7);
        Check.due("receive(0) by a key that is forgotten", x.receive(0), Pair.FAILED);
        Check.due("no random is made", x.look(1, 6), 0);
        Check.due("key(0, 3)", x.key(0, 3), 0);
        Check.due("keys of the client", x.look(0, 5), 8);
    }
}
