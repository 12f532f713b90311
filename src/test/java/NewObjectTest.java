/** Promise 1: both sides, made with a number. */
public final class NewObjectTest {
    public static void main(String[] args) {
        for (int seed : new int[] {0, 1, 7, -1, 255, 256, 65536, 1 << 24, Integer.MAX_VALUE, Integer.MIN_VALUE}) {
            nothingAtFirst(new SealedWire(seed));
            randomsComeOfTheSeed(seed);
        }
        twoObjectsAreApart();
        Check.end();
    }

    private static void nothingAtFirst(SealedWire x) {
        for (int side = 0; side < 2; side++) {
            for (int what = 0; what < 7; what++) {
                Check.due("look(" + side + ", " + what + ") at first", x.look(side, what), 0);
            }
            for (int k = 0; k < 8; k++) {
                Check.due("forget(" + side + ", " + k + ") at first", x.forget(side, k), Pair.NONE);
            }
            Check.due("wire(" + side + ", 0, -1) at first", x.wire(side, 0, -1), Pair.NONE);
            Check.due("receive(" + side + ") at first", x.receive(side), Pair.NONE);
        }
        for (int what = 0; what < 5; what++) {
            Check.due("count(" + what + ") at first", x.count(what), 0);
        }
        Check.due("octet(-1) at first", x.octet(-1), 0);
        Check.due("octet(0) at first", x.octet(0), Pair.NONE);
        Check.due("answer() at first", x.answer(), Pair.NONE);
        Check.due("stored() at first", x.stored(), Pair.NONE);
        Check.due("end(1) at first", x.end(1), Pair.REFUSED);
        Check.due("end(0) at first", x.end(0), 0);
    }

    private static void randomsComeOfTheSeed(int seed) {
        Pair pair = new Pair(seed);
        pair.sameKey(5, 1, 2, 3);
        for (int made = 0; made < 3; made++) {
            pair.wire.greet(5);
            byte[] body = Library.join(Library.random(0, seed, made), Library.bytes(5));
            Check.due("the greeting", pair.record(0, 0), Library.record(1, body));
            pair.wire.receive(0);
            byte[] random = Library.random(1, seed, made);
            byte[] g = Library.hash(body, random);
            byte[] s = Library.mac(Library.hash(Library.bytes(1, 2, 3)), g);
            byte[] f = Library.mac(s, Library.bytes(102));
            byte[] proof = Library.mac(f, Library.bytes(115), g);
            Check.due("the reply", pair.record(1, 0), Library.record(2, random, proof));
            pair.wire.receive(1);
            Check.due("the proof", pair.record(0, 0), Library.record(3, Library.mac(f, Library.bytes(99), g)));
            pair.wire.receive(0);
            Check.due("idle(0)", pair.wire.idle(0), 0);
            Check.due("idle(1)", pair.wire.idle(1), 0);
        }
    }

    private static void twoObjectsAreApart() {
        Pair one = Pair.open(3);
        Pair other = new Pair(3);
        Check.due("the other's client", other.wire.look(0, 0), Pair.IDLE);
        other.sameKey(0);
        other.greetAll(0);
        one.ask(1, Pair.text("one"));
        Check.due("the other's store", other.wire.count(0), 0);
        Check.due("the other's tape", other.wire.end(1), Pair.REFUSED);
    }
}
