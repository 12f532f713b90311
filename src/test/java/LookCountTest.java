/** Promises 22 and 23: look and count. */
public final class LookCountTest {
    private static final int[] ODD = {-1, 7, 8, -2, Integer.MIN_VALUE, Integer.MAX_VALUE};

    public static void main(String[] args) {
        otherNumbers();
        statesOfBoth();
        numbersAndGenerations();
        countsOverAll();
        Check.end();
    }

    private static void otherNumbers() {
        Pair pair = Pair.open(71);
        for (int what : ODD) {
            Check.due("look(0, " + what + ")", pair.wire.look(0, what), Pair.REFUSED);
            Check.due("look(1, " + what + ")", pair.wire.look(1, what), Pair.REFUSED);
            Check.due("count(" + what + ")", pair.wire.count(what), Pair.REFUSED);
        }
        Check.due("count(5)", pair.wire.count(5), Pair.REFUSED);
        for (int what = 0; what < 7; what++) {
            for (int side : new int[] {-1, 2, Integer.MIN_VALUE, Integer.MAX_VALUE}) {
                Check.due("look(" + side + ", " + what + ")", pair.wire.look(side, what), Pair.REFUSED);
            }
        }
    }

    private static void dueStates(SealedWire x, int client, int server) {
        Check.due("look(0, 0)", x.look(0, 0), client);
        Check.due("look(1, 0)", x.look(1, 0), server);
    }

    private static void statesOfBoth() {
        Pair pair = new Pair(72);
        SealedWire x = pair.wire;
        dueStates(x, Pair.IDLE, Pair.IDLE);
        pair.sameKey(0);
        x.greet(0);
        dueStates(x, Pair.GREETED, Pair.IDLE);
        x.receive(0);
        dueStates(x, Pair.GREETED, Pair.GREETED);
        x.receive(1);
        dueStates(x, Pair.OPEN, Pair.GREETED);
        x.receive(0);
        dueStates(x, Pair.OPEN, Pair.OPEN);
        x.close(0);
        dueStates(x, Pair.CLOSED, Pair.OPEN);
        x.flip(0, 0, 5, 1);
        x.receive(0);
        dueStates(x, Pair.CLOSED, Pair.BROKEN);
        x.idle(1);
        dueStates(x, Pair.CLOSED, Pair.IDLE);
    }

    private static void dueWays(SealedWire x, int side, int... want) {
        for (int what = 1; what < 5; what++) {
            Check.due("look(" + side + ", " + what + ")", x.look(side, what), want[what - 1]);
        }
    }

    private static void numbersAndGenerations() {
        Pair pair = Pair.open(73);
        SealedWire x = pair.wire;
        x.request(0);
        x.request(0);
        x.request(0);
        dueWays(x, 0, 3, 0, 0, 0);
        dueWays(x, 1, 0, 0, 0, 0);
        x.receive(0);
        x.receive(0);
        dueWays(x, 1, 2, 2, 0, 0);
        x.receive(1);
        dueWays(x, 0, 3, 1, 0, 0);
        x.renew(1);
        x.renew(1);
        dueWays(x, 1, 2, 0, 0, 2);
        dueWays(x, 0, 3, 1, 0, 0);
        x.receive(1);
        dueWays(x, 0, 3, 2, 0, 0);
        x.receive(1);
        dueWays(x, 0, 3, 0, 0, 1);
        x.receive(1);
        dueWays(x, 0, 3, 0, 0, 2);
        x.renew(0);
        dueWays(x, 0, 0, 0, 1, 2);
        x.receive(0);
        dueWays(x, 1, 3, 1, 0, 2);
        x.receive(0);
        dueWays(x, 1, 0, 1, 1, 2);
        x.request(0);
        x.close(0);
        dueWays(x, 0, 0, 0, 0, 0);
        x.flip(0, 0, 8, 4);
        x.receive(0);
        dueWays(x, 1, 0, 0, 0, 0);
        Check.due("keys when FAILED", x.look(1, 5), 1);
        Check.due("randoms when FAILED", x.look(1, 6), 1);
        x.idle(0);
        x.idle(1);
        x.greet(0);
        dueWays(x, 0, 0, 0, 0, 0);
    }

    private static void dueCounts(SealedWire x, int... want) {
        for (int what = 0; what < 5; what++) {
            Check.due("count(" + what + ")", x.count(what), want[what]);
        }
    }

    private static void countsOverAll() {
        Pair pair = Pair.open(74);
        SealedWire x = pair.wire;
        dueCounts(x, 0, 0, 0, 0, 0);
        pair.request(1, Pair.text("v"));
        x.request(0);
        dueCounts(x, 0, 0, 0, 2, 0);
        x.receive(0);
        dueCounts(x, 1, 1, 0, 1, 1);
        x.receive(0);
        dueCounts(x, 1, 2, 0, 0, 2);
        x.receive(1);
        dueCounts(x, 1, 2, 1, 0, 1);
        x.flip(1, 0, 9, 1);
        x.receive(1);
        dueCounts(x, 1, 2, 1, 0, 0);
        x.renew(1);
        dueCounts(x, 1, 2, 1, 0, 1);
        x.drop(1, 0);
        x.idle(0);
        x.idle(1);
        pair.greetAll(0);
        dueCounts(x, 1, 2, 1, 0, 0);
        pair.ask(2);
        dueCounts(x, 0, 3, 2, 0, 0);
        x.renew(0);
        x.receive(0);
        dueCounts(x, 0, 3, 2, 0, 0);
    }
}
