/** The boundary sentences on THE STORE, REQUEST and ANSWER, and of promises 9, 10, 20 and 21. */
public final class EdgeStoreTest {
    private static final byte[] DONE = {0}, IS_NONE = {1}, IS_ONE = {2}, NO_PLACE = {3}, NOTHING = {};

    public static void main(String[] args) {
        nameAtFirst();
        nameOf1To16();
        nameRefusedStays();
        requestRefusedForAnotherOp();
        requestRefusedWithBytesForGetAndRemove();
        requestRefusedWithMoreThan64();
        requestWrongIfNotOpen();
        requestFull();
        requestLooksInItsOrder();
        storeNoneAtFirst();
        storeAtMost20Names();
        putWhereOneIs();
        removeOfTheFirstAndTheLast();
        valuesOf0To64();
        moreThan64Behind();
        thereIsNone();
        thereIsOne();
        valueForAGetThatIsDoneOnly();
        answerByItsForm();
        requestOfAnOpAbove4();
        requestOfAName0OrAbove16();
        requestWithBytesMissing();
        requestWithMoreThanItMay();
        answerNoneIfThereIsNone();
        answerStays();
        answerOfOpenAnew();
        storedNoneIfThereIsNone();
        storedOf0And64();
        storedOfTheFirstAndTheLast();
        Check.end();
    }

    private static boolean isBare(int op) {
        return op == 0 || op == 2;
    }

    private static void nameAtFirst() {
        Check.sentence("(At first the byte 110.)");
        Pair pair = Pair.open(1);
        pair.wire.request(0);
        Check.due("the request", pair.record(0, 0),
            Library.sealedRecord(pair.firstKey(0), 0, Library.bytes(0, 0, 1, 110)));
    }

    private static void nameOf1To16() {
        Check.sentence("The TAPE becomes THE NAME that requests have: how many bytes. REFUSED if it has not 1 to 16");
        for (int size : new int[] {0, 1, 2, 15, 16, 17, 18, 199, 200}) {
            Pair pair = Pair.open(2);
            byte[] name = Library.fill(size, 200);
            boolean well = size >= 1 && size <= 16;
            pair.tape(name);
            Check.due("name() of " + size, pair.wire.name(), well ? size : Pair.REFUSED);
            pair.wire.request(0);
            byte[] plain = well ? Library.join(Library.bytes(0, 0, size), name) : Library.bytes(0, 0, 1, 110);
            Check.due("the request", pair.record(0, 0), Library.sealedRecord(pair.firstKey(0), 0, plain));
            Check.due("receive(0)", pair.wire.receive(0), 4);
        }
    }

    private static void nameRefusedStays() {
        Check.sentence("REFUSED if it has not 1 to 16");
        Pair pair = Pair.open(3);
        pair.name("sixteen bytes it");
        pair.ask(1, Library.bytes(5));
        String before = pair.view();
        for (int size : new int[] {0, 17}) {
            pair.tape(new byte[size]);
            Check.due("name() of " + size, pair.wire.name(), Pair.REFUSED);
            Check.due("behind REFUSED all", pair.view(), before);
            Check.due("stored() by the name before", pair.wire.stored(), 1);
            pair.wire.answer();
        }
    }

    private static void requestRefusedForAnotherOp() {
        Check.sentence("REFUSED if op is not 0 to 4");
        Pair pair = Pair.open(4);
        String before = pair.view();
        for (int op : new int[] {-1, 5, 255, 256, 260, Integer.MIN_VALUE, Integer.MAX_VALUE}) {
            Check.due("request(" + op + ")", pair.wire.request(op), Pair.REFUSED);
        }
        Check.due("behind REFUSED all", pair.view(), before);
        for (int op = 0; op <= 4; op++) {
            Check.due("request(" + op + ")", pair.wire.request(op), 0);
            Check.due("its record", pair.record(0, op),
                Library.sealedRecord(pair.firstKey(0), op, Library.bytes(0, op, 1, 110)));
        }
    }

    private static void requestRefusedWithBytesForGetAndRemove() {
        Check.sentence("REFUSED if .. the TAPE has bytes for ops 0 and 2");
        for (int op = 0; op <= 4; op++) {
            Pair pair = Pair.open(5);
            String before = pair.view();
            int want = isBare(op) ? Pair.REFUSED : 0;
            Check.due("request(" + op + ") with 1 byte", pair.request(op, Library.bytes(0)), want);
            if (isBare(op)) {
                Check.due("behind REFUSED all", pair.view(), before);
            }
            Check.due("request(" + op + ") with none", pair.request(op, NOTHING), 0);
        }
    }

    private static void requestRefusedWithMoreThan64() {
        Check.sentence("REFUSED if .. the TAPE has .. more than 64");
        for (int op = 0; op <= 4; op++) {
            for (int size : new int[] {63, 64, 65, 66, 200}) {
                Pair pair = Pair.open(6);
                int want = isBare(op) || size > 64 ? Pair.REFUSED : 0;
                Check.due("request(" + op + ") with " + size, pair.request(op, new byte[size]), want);
                Check.due("records to the server", pair.wire.count(3), want == 0 ? 1 : 0);
                Check.due("the number", pair.wire.look(0, 1), want == 0 ? 1 : 0);
            }
        }
    }

    private static void requestWrongIfNotOpen() {
        Check.sentence("request: WRONG if it is not OPEN");
        for (int state = Pair.IDLE; state <= Pair.BROKEN; state++) {
            Pair pair = Pair.inState(0, state);
            String before = pair.view();
            int want = state == Pair.OPEN ? 0 : Pair.WRONG;
            Check.due("request(0) in state " + state, pair.wire.request(0), want);
            if (want == Pair.WRONG) {
                Check.due("behind WRONG all", pair.view(), before);
            }
        }
        // The server's state is not asked for.
        Pair pair = Pair.inState(1, Pair.CLOSED);
        Check.due("request(0) when the server is CLOSED", pair.wire.request(0), 0);
    }

    private static void requestFull() {
        Check.sentence("A side that sends what has no place (12 on the wire) does not send it: request");
        Pair pair = Pair.open(7);
        pair.crowd(0);
        String before = pair.view();
        Check.due("request(1) behind 12", pair.request(1, Library.bytes(1)), Pair.FULL);
        Check.due("behind FULL all", pair.view(), before);
        pair.wire.drop(0, 0);
        pair.crowd(1);
        Check.due("request(1) behind 11", pair.request(1, Library.bytes(1)), 0);
        Check.due("it comes last", pair.record(0, 11),
            Library.sealedRecord(pair.firstKey(0), 0, Library.bytes(0, 1, 1, 110, 1)));
    }

    private static void requestLooksInItsOrder() {
        Check.sentence("REFUSED if op is not 0 to 4 ..; WRONG if it is not OPEN; FULL");
        Pair pair = Pair.inState(0, Pair.CLOSED);
        pair.crowd(0);
        Check.due("request(5), not OPEN, FULL", pair.wire.request(5), Pair.REFUSED);
        Check.due("request(0) with bytes, not OPEN, FULL", pair.request(0, new byte[1]), Pair.REFUSED);
        Check.due("request(1) with 65, not OPEN, FULL", pair.request(1, new byte[65]), Pair.REFUSED);
        Check.due("request(1), not OPEN, FULL", pair.request(1, new byte[64]), Pair.WRONG);
    }

    private static void storeNoneAtFirst() {
        Check.sentence("THE STORE of the server: .. none at first");
        Pair pair = Pair.open(8);
        Check.due("names", pair.wire.count(0), 0);
        Check.due("stored()", pair.wire.stored(), Pair.NONE);
        Check.due("get", pair.ask(0), IS_NONE);
        Check.due("remove", pair.ask(2), IS_NONE);
    }

    private static Pair withNames(int names) {
        Pair pair = Pair.open(9);
        for (int i = 0; i < names; i++) {
            pair.name("name " + (char) i);
            Check.due("put " + i, pair.ask(1, Library.bytes(i)), DONE);
        }
        Check.due("names", pair.wire.count(0), names);
        return pair;
    }

    private static void storeAtMost20Names() {
        Check.sentence("at most 20 NAMES; 3 no place (21 names");
        for (int op = 1; op <= 3; op += 2) {
            Pair pair = withNames(19);
            pair.name("twenty");
            Check.due("op " + op + ", the 20th", pair.ask(op, Library.bytes(20)), DONE);
            pair.name("twentyone");
            Check.due("op " + op + ", the 21st", pair.ask(op, Library.bytes(21)), NO_PLACE);
            Check.due("it is not stored", pair.wire.stored(), Pair.NONE);
            Check.due("names", pair.wire.count(0), 20);
            pair.name("twenty");
            Check.due("put of one of 20", pair.ask(1, Library.bytes(99)), DONE);
            Check.due("put if there is none, of one of 20", pair.ask(3, Library.bytes(98)), IS_ONE);
            Check.due("behind one of 20", pair.ask(4, Library.bytes(97)), DONE);
            Check.due("get of one of 20", pair.ask(0), Library.bytes(0, 99, 97));
            pair.name("twentyone");
            Check.due("behind the 21st", pair.ask(4, Library.bytes(21)), IS_NONE);
            Check.due("remove of the 21st", pair.ask(2), IS_NONE);
            pair.name("name \0");
            Check.due("remove of one of 20", pair.ask(2), DONE);
            pair.name("twentyone");
            Check.due("op " + op + ", the 20th again", pair.ask(op, Library.bytes(21)), DONE);
            Check.due("names", pair.wire.count(0), 20);
        }
    }

    private static void putWhereOneIs() {
        Check.sentence("1 put");
        for (int names : new int[] {1, 20}) {
            for (int place : new int[] {0, names - 1}) {
                Pair pair = withNames(names);
                pair.name("name " + (char) place);
                Check.due("put where one is", pair.ask(1, Library.bytes(77, 78)), DONE);
                Check.due("names", pair.wire.count(0), names);
                Check.due("get", pair.ask(0), Library.bytes(0, 77, 78));
                Check.due("remove", pair.ask(2), DONE);
                Check.due("get of what is removed", pair.ask(0), IS_NONE);
            }
        }
    }

    private static void removeOfTheFirstAndTheLast() {
        Check.sentence("2 remove");
        for (int names : new int[] {1, 2, 20}) {
            for (int gone : new int[] {0, names / 2, names - 1}) {
                Pair pair = withNames(names);
                pair.name("name " + (char) gone);
                Check.due("remove", pair.ask(2), DONE);
                Check.due("names", pair.wire.count(0), names - 1);
                pair.name("new");
                Check.due("put", pair.ask(1, Library.bytes(100)), DONE);
                for (int i = 0; i < names; i++) {
                    pair.name("name " + (char) i);
                    Check.due("stored() of name " + i, pair.wire.stored(), i == gone ? Pair.NONE : 1);
                    Check.due("its value", i == gone ? i : pair.wire.octet(0), i);
                }
                pair.name("new");
                Check.due("get", pair.ask(0), Library.bytes(0, 100));
            }
        }
    }

    private static void valuesOf0To64() {
        Check.sentence("each with a VALUE of 0 to 64 bytes");
        for (int op = 1; op <= 3; op += 2) {
            for (int size : new int[] {0, 1, 63, 64}) {
                Pair pair = Pair.open(10);
                byte[] value = Library.fill(size, 250);
                Check.due("op " + op + " of " + size, pair.ask(op, value), DONE);
                Check.due("names", pair.wire.count(0), 1);
                Check.due("get", pair.ask(0), Library.join(DONE, value));
            }
        }
    }

    private static void moreThan64Behind() {
        Check.sentence("3 no place (.. or more than 64 bytes)");
        for (int first : new int[] {0, 1, 32, 63, 64}) {
            for (int more = -1; more <= 1; more++) {
                int behind = 64 - first + more;
                if (behind < 0 || behind > 64) {
                    continue;
                }
                Pair pair = Pair.open(11);
                byte[] value = Library.fill(first, 1);
                byte[] end = Library.fill(behind, 2);
                pair.ask(1, value);
                Check.due(behind + " behind " + first, pair.ask(4, end), more > 0 ? NO_PLACE : DONE);
                byte[] want = more > 0 ? value : Library.join(value, end);
                Check.due("get", pair.ask(0), Library.join(DONE, want));
            }
        }
        Pair pair = Pair.open(11);
        pair.ask(1, Library.fill(1, 1));
        Check.due("64 behind 1", pair.ask(4, Library.fill(64, 2)), NO_PLACE);
        Check.due("none behind 1", pair.ask(4), DONE);
    }

    private static void thereIsNone() {
        Check.sentence("1 there is none (0, 2, 4)");
        for (int op = 0; op <= 4; op++) {
            Pair pair = Pair.open(12);
            boolean put = op == 1 || op == 3;
            Check.due("op " + op + " of none", pair.ask(op, isBare(op) ? NOTHING : Library.bytes(1)),
                put ? DONE : IS_NONE);
            Check.due("names", pair.wire.count(0), put ? 1 : 0);
        }
    }

    private static void thereIsOne() {
        Check.sentence("2 there is one (3)");
        for (int size = 0; size <= 1; size++) {
            Pair pair = Pair.open(13);
            pair.ask(1, new byte[size]);
            Check.due("put if there is none", pair.ask(3, Library.bytes(1, 2)), IS_ONE);
            Check.due("stored()", pair.wire.stored(), size);
            pair.ask(2);
            Check.due("put if there is none, removed", pair.ask(3, Library.bytes(1, 2)), DONE);
            Check.due("stored()", pair.wire.stored(), 2);
        }
    }

    private static void valueForAGetThatIsDoneOnly() {
        Check.sentence("and the VALUE for a get that is done");
        for (int op = 1; op <= 4; op++) {
            Pair pair = Pair.open(14);
            pair.ask(1, Library.bytes(7, 7, 7));
            byte[] answer = pair.ask(op, op == 2 ? NOTHING : Library.bytes(8));
            Check.due("op " + op + " has a STATUS alone", answer, op == 3 ? IS_ONE : DONE);
        }
        Pair pair = Pair.open(14);
        pair.ask(1, Library.bytes(7, 7, 7));
        Check.due("get", pair.ask(0), Library.bytes(0, 7, 7, 7));
        pair.name("other");
        Check.due("get that is not done", pair.ask(0), IS_NONE);
    }

    private static void answerByItsForm() {
        Check.sentence("An ANSWER is one by its form alone: STATUS 0 and 0 to 64 bytes, 1 to 3 and none");
        for (int size : new int[] {0, 1, 63, 64, 65, 66, 179}) {
            boolean well = size <= 64;
            Pair pair = Pair.comes(1, Library.join(Library.bytes(0, 0), new byte[size]), well ? 4 : Pair.FAILED);
            Check.due("answer()", pair.wire.answer(), well ? size + 1 : Pair.NONE);
            Check.due("answers got", pair.wire.count(2), well ? 1 : 0);
        }
        for (int status = 1; status <= 3; status++) {
            Pair pair = Pair.comes(1, Library.bytes(0, status), 4);
            Check.due("answer()", pair.wire.answer(), 1);
            Pair.comes(1, Library.bytes(0, status, 0), Pair.FAILED);
            Pair.comes(1, Library.join(Library.bytes(0, status), new byte[64]), Pair.FAILED);
        }
        for (int status : new int[] {4, 5, 127, 128, 255}) {
            Pair.comes(1, Library.bytes(0, status), Pair.FAILED);
            Pair.comes(1, Library.bytes(0, status, 0), Pair.FAILED);
        }
    }

    private static byte[] plain(int op, int told, int nameSize, int bytes) {
        return Library.join(Library.bytes(0, op, told), Library.fill(nameSize, 'k'), Library.fill(bytes, 'd'));
    }

    private static void requestOfAnOpAbove4() {
        Check.sentence("A REQUEST is none with an OP above 4");
        for (int op = 0; op <= 4; op++) {
            Pair.comes(0, plain(op, 1, 1, 0), 4);
        }
        for (int op : new int[] {5, 6, 127, 128, 129, 255}) {
            Pair.comes(0, plain(op, 1, 1, 0), Pair.FAILED);
        }
    }

    private static void requestOfAName0OrAbove16() {
        Check.sentence("A REQUEST is none with .. a NAME of 0 or more than 16 bytes");
        for (int op = 0; op <= 4; op++) {
            for (int size : new int[] {0, 1, 16, 17, 18, 128}) {
                Pair.comes(0, plain(op, size, size, 0), size >= 1 && size <= 16 ? 4 : Pair.FAILED);
            }
        }
    }

    private static void requestWithBytesMissing() {
        Check.sentence("A REQUEST is none with .. bytes missing");
        for (int op = 0; op <= 4; op++) {
            Pair.comes(0, Library.bytes(0), Pair.FAILED);
            Pair.comes(0, Library.bytes(0, op), Pair.FAILED);
            Pair.comes(0, plain(op, 1, 0, 0), Pair.FAILED);
            Pair.comes(0, plain(op, 1, 1, 0), 4);
            Pair.comes(0, plain(op, 16, 15, 0), Pair.FAILED);
            Pair.comes(0, plain(op, 16, 16, 0), 4);
        }
    }

    private static void requestWithMoreThanItMay() {
        Check.sentence("A REQUEST is none with .. more than it may have");
        for (int op = 0; op <= 4; op++) {
            int most = isBare(op) ? 0 : 64;
            for (int nameSize = 1; nameSize <= 16; nameSize += 15) {
                Pair.comes(0, plain(op, nameSize, nameSize, most), 4);
                Pair.comes(0, plain(op, nameSize, nameSize, most + 1), Pair.FAILED);
            }
            Pair.comes(0, plain(op, 16, 16, 162), Pair.FAILED);
        }
    }

    private static void answerNoneIfThereIsNone() {
        Check.sentence("answer: NONE if there is none");
        for (int state = Pair.IDLE; state <= Pair.BROKEN; state++) {
            Pair pair = Pair.inState(0, state);
            String before = pair.view();
            Check.due("answer() in state " + state, pair.wire.answer(), Pair.NONE);
            Check.due("behind NONE all", pair.view(), before);
        }
        Pair pair = Pair.open(15);
        pair.wire.request(0);
        pair.wire.receive(0);
        Check.due("answer() before it comes", pair.wire.answer(), Pair.NONE);
        pair.wire.receive(1);
        Check.due("answer() when it has come", pair.wire.answer(), 1);
    }

    private static void answerStays() {
        Check.sentence("(It stays behind idle, CLOSED and FAILED");
        for (int end = 0; end < 4; end++) {
            Pair pair = Pair.open(16);
            pair.ask(1, Library.fill(64, 5));
            pair.ask(0);
            pair.wire.stored();
            if (end == 0) {
                pair.wire.idle(0);
            } else if (end == 1) {
                pair.wire.close(0);
            } else if (end == 2) {
                pair.wire.close(1);
                pair.wire.receive(1);
            } else {
                pair.forge(1, Library.bytes(0, 0, 0));
                pair.wire.receive(1);
            }
            int want = new int[] {Pair.IDLE, Pair.CLOSED, Pair.CLOSED, Pair.BROKEN}[end];
            Check.due("the client", pair.wire.look(0, 0), want);
            Check.due("answer()", pair.wire.answer(), 65);
            Check.due("OUT", pair.out(), Library.join(DONE, Library.fill(64, 5)));
        }
    }

    private static void answerOfOpenAnew() {
        Check.sentence("until the client is OPEN anew.)");
        Pair pair = Pair.open(17);
        pair.ask(1, Library.bytes(5));
        pair.wire.idle(0);
        pair.wire.idle(1);
        pair.wire.greet(0);
        pair.wire.receive(0);
        Check.due("answer() when GREETED", pair.wire.answer(), 1);
        pair.crowd(0);
        Check.due("receive(1), FULL", pair.wire.receive(1), Pair.FULL);
        Check.due("answer() behind FULL", pair.wire.answer(), 1);
        pair.wire.drop(0, 0);
        Check.due("receive(1)", pair.wire.receive(1), 2);
        Check.due("answer() when OPEN anew", pair.wire.answer(), Pair.NONE);
        Check.due("answers got, since all was made", pair.wire.count(2), 1);
        // A greeting that fails leaves it.
        Pair failing = Pair.open(17);
        failing.ask(1, Library.bytes(5));
        failing.wire.idle(0);
        failing.wire.idle(1);
        failing.wire.greet(0);
        failing.wire.receive(0);
        failing.wire.flip(1, 0, 66, 1);
        Check.due("receive(1)", failing.wire.receive(1), Pair.FAILED);
        Check.due("answer() behind a greeting that failed", failing.wire.answer(), 1);
    }

    private static void storedNoneIfThereIsNone() {
        Check.sentence("stored: NONE if there is none");
        Pair pair = Pair.open(18);
        pair.name("ab");
        pair.ask(1, Library.bytes(1, 2, 3));
        Check.due("stored()", pair.wire.stored(), 3);
        for (String other : new String[] {"a", "b", "abc", "ba", "ab\0"}) {
            pair.name(other);
            Check.due("stored() of another name", pair.wire.stored(), Pair.NONE);
            Check.due("OUT stays", pair.wire.octet(-1), 3);
        }
        pair.name("ab");
        pair.ask(2);
        Check.due("stored() of what was removed", pair.wire.stored(), Pair.NONE);
    }

    private static void storedOf0And64() {
        Check.sentence("OUT becomes the VALUE of THE NAME in the store: how many bytes");
        for (int size : new int[] {0, 1, 64}) {
            Pair pair = Pair.open(19);
            pair.ask(1, Library.fill(size, 'v'));
            pair.ask(0);
            Check.due("stored() of " + size, pair.wire.stored(), size);
            Check.due("OUT", pair.out(), Library.fill(size, 'v'));
        }
    }

    private static void storedOfTheFirstAndTheLast() {
        Check.sentence("OUT becomes the VALUE of THE NAME in the store");
        Pair pair = withNames(20);
        for (int i : new int[] {0, 1, 18, 19}) {
            pair.name("name " + (char) i);
            Check.due("stored()", pair.wire.stored(), 1);
            Check.due("octet(0)", pair.wire.octet(0), i);
        }
        pair.name("name " + (char) 20);
        Check.due("stored()", pair.wire.stored(), Pair.NONE);
    }
}
