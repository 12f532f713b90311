/** Promises 9, 10, 20 and 21, and the store behind them: name, request, and what is answered. */
public final class RequestTest {
    private static final byte[] DONE = {0}, IS_NONE = {1}, IS_ONE = {2}, NO_PLACE = {3}, NOTHING = {};

    public static void main(String[] args) {
        names();
        requestAnswers();
        requestRecords();
        operations();
        twentyNames();
        sixtyFourBytes();
        namesAreApart();
        everySizeIsSealedAlike();
        answersWaitForAPlace();
        Check.end();
    }

    private static void names() {
        Pair pair = Pair.open(31);
        SealedWire x = pair.wire;
        pair.ask(1, Pair.text("first"));
        Check.due("name() of none", x.name(), Pair.REFUSED);
        Check.due("the name stays", x.stored(), 5);
        pair.tape(Library.fill(17, 'a'));
        Check.due("name() of 17", x.name(), Pair.REFUSED);
        Check.due("the name stays", x.stored(), 5);
        pair.tape(Library.fill(200, 'a'));
        Check.due("name() of 200", x.name(), Pair.REFUSED);
        Check.due("name() at first is the byte 110", pair.name("n"), 1);
        Check.due("stored()", x.stored(), 5);
        for (int size = 1; size <= 16; size++) {
            pair.tape(Library.fill(size, 'a'));
            Check.due("name() of " + size, x.name(), size);
            Check.due("stored()", x.stored(), Pair.NONE);
            Check.due("put", pair.ask(1, Library.bytes(size)), DONE);
            Check.due("get", pair.ask(0), Library.bytes(0, size));
        }
        Check.due("names in the store", x.count(0), 17);
    }

    private static void requestAnswers() {
        Pair pair = new Pair(32);
        SealedWire x = pair.wire;
        Check.due("request(0) when IDLE", x.request(0), Pair.WRONG);
        pair.sameKey(0);
        x.greet(0);
        Check.due("request(0) when GREETED", x.request(0), Pair.WRONG);
        Check.due("request(5) when GREETED", x.request(5), Pair.REFUSED);
        x.receive(0);
        x.receive(1);
        for (int op : new int[] {-1, 5, 255, 256, Integer.MIN_VALUE, Integer.MAX_VALUE}) {
            Check.due("request(" + op + ")", x.request(op), Pair.REFUSED);
        }
        for (int op = 0; op < 5; op++) {
            boolean bare = op == 0 || op == 2;
            Check.due("request(" + op + ") with a byte", pair.request(op, Library.bytes(0)), bare ? Pair.REFUSED : 0);
            Check.due("request(" + op + ") with 64", pair.request(op, new byte[64]), bare ? Pair.REFUSED : 0);
            Check.due("request(" + op + ") with 65", pair.request(op, new byte[65]), Pair.REFUSED);
            Check.due("request(" + op + ") with 200", pair.request(op, new byte[200]), Pair.REFUSED);
            Check.due("request(" + op + ") without", x.request(op), 0);
        }
        Check.due("records to the server", x.count(3), 12);
        Check.due("the number is of those that were sent", x.look(0, 1), 11);
        Check.due("request(0), FULL", x.request(0), Pair.FULL);
        Check.due("request(9), FULL", x.request(9), Pair.REFUSED);
        Check.due("the number stays", x.look(0, 1), 11);
        x.close(0);
        x.drop(0, 0);
        x.close(0);
        Check.due("request(0) when CLOSED", x.request(0), Pair.WRONG);
        pair.crowd(0);
        Check.due("request(0) when CLOSED and FULL", x.request(0), Pair.WRONG);
        x.idle(0);
        pair.forge(1, Library.bytes(0, 0, 0));
        x.receive(1);
        Check.due("request(0) when FAILED", x.request(0), Pair.WRONG);
    }

    private static void requestRecords() {
        Pair pair = Pair.open(33);
        SealedWire x = pair.wire;
        pair.name("some name");
        pair.request(1, Pair.text("some value"));
        Check.due("the request", pair.record(0, 0),
            Library.sealedRecord(pair.firstKey(0), 0, Pair.text("\0\1\11some namesome value")));
        x.request(0);
        Check.due("the second", pair.record(0, 1),
            Library.sealedRecord(pair.firstKey(0), 1, Pair.text("\0\0\11some name")));
        x.receive(0);
        Check.due("the answer", pair.record(1, 0), Library.sealedRecord(pair.firstKey(1), 0, Library.bytes(0, 0)));
        x.receive(0);
        Check.due("the second", pair.record(1, 1),
            Library.sealedRecord(pair.firstKey(1), 1, Pair.text("\0\0some value")));
        Check.due("the number of the client's", x.look(0, 1), 2);
        Check.due("the number at the server", x.look(1, 1), 2);
        Check.due("the number of the server's", x.look(1, 2), 2);
        Check.due("the number at the client", x.look(0, 2), 0);
        x.receive(1);
        Check.due("the number at the client", x.look(0, 2), 1);
    }

    private static void operations() {
        Pair pair = Pair.open(34);
        Check.due("get of none", pair.ask(0), IS_NONE);
        Check.due("remove of none", pair.ask(2), IS_NONE);
        Check.due("behind none", pair.ask(4, Pair.text("x")), IS_NONE);
        Check.due("names", pair.wire.count(0), 0);
        Check.due("put if there is none", pair.ask(3, Pair.text("one")), DONE);
        Check.due("put if there is none, again", pair.ask(3, Pair.text("two")), IS_ONE);
        Check.due("get", pair.ask(0), Pair.text("\0one"));
        Check.due("put", pair.ask(1, Pair.text("three")), DONE);
        Check.due("get", pair.ask(0), Pair.text("\0three"));
        Check.due("put of less", pair.ask(1, Pair.text("4")), DONE);
        Check.due("get", pair.ask(0), Pair.text("\0004"));
        Check.due("behind", pair.ask(4, Pair.text("567")), DONE);
        Check.due("behind, of none", pair.ask(4), DONE);
        Check.due("get", pair.ask(0), Pair.text("\0004567"));
        Check.due("names", pair.wire.count(0), 1);
        Check.due("remove", pair.ask(2), DONE);
        Check.due("names", pair.wire.count(0), 0);
        Check.due("remove again", pair.ask(2), IS_NONE);
        Check.due("get", pair.ask(0), IS_NONE);
        Check.due("put of nothing", pair.ask(1), DONE);
        Check.due("get of nothing", pair.ask(0), DONE);
        Check.due("put if there is none, where nothing is", pair.ask(3, Pair.text("x")), IS_ONE);
        Check.due("behind nothing", pair.ask(4, Pair.text("y")), DONE);
        Check.due("get", pair.ask(0), Pair.text("\0y"));
    }

    private static void twentyNames() {
        Pair pair = Pair.open(35);
        for (int i = 0; i < 20; i++) {
            pair.name("name" + (char) i);
            Check.due("put " + i, pair.ask(i % 2 == 0 ? 1 : 3, Library.bytes(i)), DONE);
            Check.due("names", pair.wire.count(0), i + 1);
        }
        pair.name("name" + (char) 20);
        Check.due("put 21", pair.ask(1, NOTHING), NO_PLACE);
        Check.due("put 21 if there is none", pair.ask(3, NOTHING), NO_PLACE);
        Check.due("behind 21", pair.ask(4, NOTHING), IS_NONE);
        Check.due("stored()", pair.wire.stored(), Pair.NONE);
        Check.due("names", pair.wire.count(0), 20);
        pair.name("name" + (char) 4);
        Check.due("put over one of 20", pair.ask(1, Pair.text("new")), DONE);
        Check.due("put if there is none, of 20", pair.ask(3, Pair.text("new")), IS_ONE);
        Check.due("remove one of 20", pair.ask(2), DONE);
        Check.due("names", pair.wire.count(0), 19);
        pair.name("name" + (char) 20);
        Check.due("put where a place is free", pair.ask(3, Library.bytes(20)), DONE);
        for (int i = 0; i < 21; i++) {
            pair.name("name" + (char) i);
            Check.due("stored() of " + i, pair.wire.stored(), i == 4 ? Pair.NONE : 1);
            if (i != 4) {
                Check.due("its value", pair.wire.octet(0), i);
            }
        }
    }

    private static void sixtyFourBytes() {
        Pair pair = Pair.open(36);
        Check.due("put of 64", pair.ask(1, Library.fill(64, 'a')), DONE);
        Check.due("a byte behind", pair.ask(4, Pair.text("b")), NO_PLACE);
        Check.due("none behind", pair.ask(4), DONE);
        Check.due("get", pair.ask(0), Library.join(DONE, Library.fill(64, 'a')));
        Check.due("put of 40", pair.ask(1, Library.fill(40, 'a')), DONE);
        Check.due("25 behind", pair.ask(4, Library.fill(25, 'b')), NO_PLACE);
        Check.due("64 behind", pair.ask(4, Library.fill(64, 'b')), NO_PLACE);
        Check.due("stored()", pair.wire.stored(), 40);
        Check.due("24 behind", pair.ask(4, Library.fill(24, 'b')), DONE);
        Check.due("get", pair.ask(0), Library.join(DONE, Library.fill(40, 'a'), Library.fill(24, 'b')));
    }

    private static void namesAreApart() {
        Pair pair = Pair.open(37);
        String[] all = {"a", "aa", "b", "ab", "ba", "a\0", "\0", "\0\0", "\377",
            "aaaaaaaaaaaaaaaa", "aaaaaaaaaaaaaaab"};
        for (String name : all) {
            pair.name(name);
            Check.due("put of another name", pair.ask(3, Pair.text(name)), DONE);
        }
        pair.name("b");
        Check.due("remove", pair.ask(2), DONE);
        for (String name : all) {
            pair.name(name);
            byte[] want = name.equals("b") ? IS_NONE : Library.join(DONE, Pair.text(name));
            Check.due("get of a name like others", pair.ask(0), want);
        }
    }

    /** All sizes that C may have, over the ends of STREAMS and of blocks of 16. */
    private static void everySizeIsSealedAlike() {
        for (int size = 0; size <= 64; size++) {
            Pair pair = Pair.open(size);
            byte[] value = Library.fill(size, 3 * size);
            pair.request(1, value);
            Check.due("a request with " + size, pair.record(0, 0),
                Library.sealedRecord(pair.firstKey(0), 0, Library.join(Library.bytes(0, 1, 1, 'n'), value)));
            Check.due("receive(0)", pair.wire.receive(0), 4);
            pair.wire.receive(1);
            Check.due("stored()", pair.wire.stored(), size);
            Check.due("the value", pair.out(), value);
            pair.wire.request(0);
            pair.wire.receive(0);
            Check.due("an answer with " + size, pair.record(1, 0),
                Library.sealedRecord(pair.firstKey(1), 1, Library.join(Library.bytes(0, 0), value)));
        }
        Pair pair = Pair.open(38);
        pair.tape(Library.fill(16, 'm'));
        pair.wire.name();
        pair.request(3, Library.fill(64, 200));
        Check.due("the longest request", pair.record(0, 0), Library.sealedRecord(pair.firstKey(0), 0,
            Library.join(Library.bytes(0, 3, 16), Library.fill(16, 'm'), Library.fill(64, 200))));
        Check.due("receive(0)", pair.wire.receive(0), 4);
    }

    private static void answersWaitForAPlace() {
        Pair pair = Pair.open(39);
        SealedWire x = pair.wire;
        pair.request(1, Pair.text("v"));
        pair.crowd(1);
        Check.due("receive(0), FULL", x.receive(0), Pair.FULL);
        Check.due("the request stays", x.count(3), 1);
        Check.due("it is not done", x.count(0), 0);
        Check.due("it is not answered", x.count(1), 0);
        Check.due("the number stays", x.look(1, 1) + x.look(1, 2), 0);
        Check.due("the server is OPEN", x.look(1, 0), Pair.OPEN);
        x.drop(1, 0);
        Check.due("receive(0)", x.receive(0), 4);
        Check.due("it is done", x.stored(), 1);
        Check.due("the answer comes last", pair.record(1, 11),
            Library.sealedRecord(pair.firstKey(1), 0, Library.bytes(0, 0)));
        x.request(0);
        x.flip(0, 0, 5, 1);
        Check.due("receive(0) of what is not as told, though FULL", x.receive(0), Pair.FAILED);
    }
}
