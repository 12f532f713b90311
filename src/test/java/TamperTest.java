/** Promises 14 to 19: wire, flip, drop, copy, hurry and forge. */
public final class TamperTest {
    private static final int[] NO_WIRE = {-1, 2, Integer.MIN_VALUE, Integer.MAX_VALUE};

    public static void main(String[] args) {
        looking();
        flipping();
        dropping();
        copying();
        hurrying();
        forging();
        Check.end();
    }

    /** Records marked a, b, c .. with so many bytes 7 behind as they are in the row. */
    private static Pair marked(int on, int records) {
        Pair pair = new Pair(61);
        for (int k = 0; k < records; k++) {
            int size = 3 + k;
            byte[] record = Library.fill(size, 7);
            record[0] = (byte) ('a' + k);
            Check.due("forge(" + on + ")", pair.forge(on, record), size);
        }
        return pair;
    }

    private static void dueMarks(Pair pair, int on, String marks) {
        Check.due("records on wire " + on, pair.wire.count(3 + on), marks.length());
        for (int k = 0; k < marks.length(); k++) {
            int mark = marks.charAt(k);
            Check.due("record " + k + " of wire " + on, pair.wire.wire(on, k, 0), mark);
            Check.due("its size", pair.wire.wire(on, k, -1), 3 + mark - 'a');
            Check.due("its last byte", pair.wire.wire(on, k, 2 + mark - 'a'), 7);
        }
        Check.due("no record behind", pair.wire.wire(on, marks.length(), -1), Pair.NONE);
    }

    private static void looking() {
        for (int on = 0; on < 2; on++) {
            Pair pair = marked(on, 12);
            SealedWire x = pair.wire;
            dueMarks(pair, on, "abcdefghijkl");
            dueMarks(pair, 1 - on, "");
            for (int i : new int[] {4, 5, -2, Integer.MIN_VALUE, Integer.MAX_VALUE}) {
                Check.due("wire(" + on + ", 1, " + i + ")", x.wire(on, 1, i), Pair.NONE);
            }
            for (int k : new int[] {-1, 12, 13, Integer.MIN_VALUE, Integer.MAX_VALUE}) {
                Check.due("wire(" + on + ", " + k + ", 0)", x.wire(on, k, 0), Pair.NONE);
                Check.due("wire(" + on + ", " + k + ", -1)", x.wire(on, k, -1), Pair.NONE);
            }
            for (int wire : NO_WIRE) {
                Check.due("wire(" + wire + ", 0, 0)", x.wire(wire, 0, 0), Pair.NONE);
                Check.due("wire(" + wire + ", 0, -1)", x.wire(wire, 0, -1), Pair.NONE);
            }
        }
        Pair pair = Pair.open(62);
        pair.request(1, Library.fill(64, 1));
        Check.due("byte 0 is the sort", pair.wire.wire(0, 0, 0), 4);
        Check.due("byte 1", pair.wire.wire(0, 0, 1), 0);
        Check.due("byte 2", pair.wire.wire(0, 0, 2), 84);
        Check.due("bytes in all", pair.wire.wire(0, 0, -1), 87);
    }

    private static void flipping() {
        Pair pair = marked(1, 3);
        SealedWire x = pair.wire;
        Check.due("flip(1, 1, 3, 255)", x.flip(1, 1, 3, 255), 248);
        Check.due("what it is", x.wire(1, 1, 3), 248);
        Check.due("the byte before", x.wire(1, 1, 2), 7);
        Check.due("another record", x.wire(1, 2, 3), 7);
        Check.due("flip by more than 8 bits", x.flip(1, 1, 3, 0x7f00), 248);
        Check.due("flip by the lowest 8", x.flip(1, 1, 3, 0xfff08), 240);
        Check.due("flip by -1", x.flip(1, 1, 3, -1), 15);
        Check.due("flip by 0", x.flip(1, 1, 3, 0), 15);
        Check.due("flip of the sort", x.flip(1, 0, 0, 1), 'a' ^ 1);
        for (int i : new int[] {-1, -2, 4, 5, Integer.MIN_VALUE, Integer.MAX_VALUE}) {
            Check.due("flip(1, 1, " + i + ", 1)", x.flip(1, 1, i, 1), Pair.NONE);
        }
        for (int k : new int[] {-1, 3, 12, Integer.MIN_VALUE, Integer.MAX_VALUE}) {
            Check.due("flip(1, " + k + ", 0, 1)", x.flip(1, k, 0, 1), Pair.NONE);
        }
        Check.due("flip on the empty wire", x.flip(0, 0, 0, 1), Pair.NONE);
        for (int wire : NO_WIRE) {
            Check.due("flip(" + wire + ", 0, 0, 1)", x.flip(wire, 0, 0, 1), Pair.NONE);
        }
        Check.due("flip of a length leaves the size", x.flip(1, 2, 2, 255) + x.wire(1, 2, -1), 248 + 5);
    }

    private static void dropping() {
        for (int on = 0; on < 2; on++) {
            Pair pair = marked(on, 12);
            SealedWire x = pair.wire;
            for (int k : new int[] {-1, 12, Integer.MIN_VALUE, Integer.MAX_VALUE}) {
                Check.due("drop(" + on + ", " + k + ")", x.drop(on, k), Pair.NONE);
            }
            Check.due("drop of a middle one", x.drop(on, 5), 11);
            dueMarks(pair, on, "abcdeghijkl");
            Check.due("drop of the last", x.drop(on, 10), 10);
            dueMarks(pair, on, "abcdeghijk");
            Check.due("drop of the first", x.drop(on, 0), 9);
            dueMarks(pair, on, "bcdeghijk");
            for (int left = 8; left >= 0; left--) {
                Check.due("drop", x.drop(on, 0), left);
            }
            Check.due("drop of none", x.drop(on, 0), Pair.NONE);
            Check.due("drop on the other", x.drop(1 - on, 0), Pair.NONE);
        }
        for (int wire : NO_WIRE) {
            Check.due("drop(" + wire + ", 0)", marked(0, 1).wire.drop(wire, 0), Pair.NONE);
        }
    }

    private static void copying() {
        for (int on = 0; on < 2; on++) {
            Pair pair = marked(on, 3);
            SealedWire x = pair.wire;
            Check.due("copy to the same", x.copy(on, 1, on), 4);
            dueMarks(pair, on, "abcb");
            Check.due("copy to the other", x.copy(on, 2, 1 - on), 1);
            dueMarks(pair, on, "abcb");
            dueMarks(pair, 1 - on, "c");
            x.flip(on, 1, 0, 'b' ^ 'Z');
            Check.due("a copy is apart", x.wire(on, 3, 0), 'b');
            x.flip(on, 1, 0, 'b' ^ 'Z');
            for (int k : new int[] {-1, 4, Integer.MIN_VALUE, Integer.MAX_VALUE}) {
                Check.due("copy(" + on + ", " + k + ", 0)", x.copy(on, k, 0), Pair.NONE);
                Check.due("copy(" + on + ", " + k + ", 2)", x.copy(on, k, 2), Pair.NONE);
            }
            for (int wire : NO_WIRE) {
                Check.due("copy(" + wire + ", 0, 0)", x.copy(wire, 0, 0), Pair.NONE);
                Check.due("copy(" + on + ", 0, " + wire + ")", x.copy(on, 0, wire), Pair.REFUSED);
            }
            for (int has = 5; has <= 12; has++) {
                Check.due("copy", x.copy(on, 0, on), has);
            }
            dueMarks(pair, on, "abcbaaaaaaaa");
            Check.due("copy, FULL", x.copy(on, 0, on), Pair.FULL);
            Check.due("copy of none, FULL", x.copy(on, 12, on), Pair.NONE);
            Check.due("copy to no wire, FULL", x.copy(on, 0, 2), Pair.REFUSED);
            Check.due("copy from a full one", x.copy(on, 11, 1 - on), 2);
            Check.due("copy to a full one", x.copy(1 - on, 0, on), Pair.FULL);
            dueMarks(pair, on, "abcbaaaaaaaa");
            dueMarks(pair, 1 - on, "ca");
        }
    }

    private static void hurrying() {
        for (int on = 0; on < 2; on++) {
            Pair pair = marked(on, 12);
            SealedWire x = pair.wire;
            Check.due("hurry of the first", x.hurry(on, 0), 0);
            dueMarks(pair, on, "abcdefghijkl");
            Check.due("hurry of the third", x.hurry(on, 2), 0);
            dueMarks(pair, on, "cabdefghijkl");
            Check.due("hurry of the last", x.hurry(on, 11), 0);
            dueMarks(pair, on, "lcabdefghijk");
            for (int k : new int[] {-1, 12, Integer.MIN_VALUE, Integer.MAX_VALUE}) {
                Check.due("hurry(" + on + ", " + k + ")", x.hurry(on, k), Pair.NONE);
            }
            for (int wire : NO_WIRE) {
                Check.due("hurry(" + wire + ", 0)", x.hurry(wire, 0), Pair.NONE);
            }
            Check.due("hurry on the other", x.hurry(1 - on, 0), Pair.NONE);
            dueMarks(pair, on, "lcabdefghijk");
        }
    }

    private static void forging() {
        for (int on = 0; on < 2; on++) {
            Pair pair = new Pair(63);
            SealedWire x = pair.wire;
            for (int size = 0; size < 3; size++) {
                Check.due("forge of " + size, pair.forge(on, new byte[size]), Pair.REFUSED);
            }
            for (int wire : NO_WIRE) {
                Check.due("forge(" + wire + ")", pair.forge(wire, new byte[5]), Pair.REFUSED);
            }
            Check.due("records", x.count(3 + on), 0);
            for (int has = 0; has < 12; has++) {
                int size = has == 0 ? 200 : 2 + has;
                Check.due("forge of " + size, pair.forge(on, Library.fill(size, 65 + has)), size);
                Check.due("it comes last", pair.record(on, has), Library.fill(size, 65 + has));
            }
            Check.due("forge, FULL", pair.forge(on, new byte[3]), Pair.FULL);
            Check.due("forge of 2, FULL", pair.forge(on, new byte[2]), Pair.REFUSED);
            Check.due("records", x.count(3 + on), 12);
            Check.due("receive of a length that lies", x.receive(on), Pair.FAILED);
        }
        Pair pair = new Pair(64);
        pair.sameKey(0);
        byte[] body = Library.join(Library.fill(32, 9), Library.bytes(0));
        pair.forge(0, Library.record(1, body));
        Check.due("receive(0) of a forged greeting", pair.wire.receive(0), 1);
        Check.due("receive(1) of its reply by an IDLE client", pair.wire.receive(1), Pair.FAILED);
    }
}
