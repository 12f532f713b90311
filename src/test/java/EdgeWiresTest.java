/** The boundary sentences on WIRES and RECORDS, and of promises 14 to 19. */
public final class EdgeWiresTest {
    private static final int[] NO_WIRE = {-1, 2, Integer.MIN_VALUE, Integer.MAX_VALUE};

    public static void main(String[] args) {
        noneAtFirst();
        atMost12();
        wireNoneIfThereIsNone();
        wireOfARecordsEnds();
        lengthsOfMoreThan255();
        flipNoneIfThereIsNone();
        flipByTheLowest8();
        dropNoneIfThereIsNone();
        dropOfFirstAndLast();
        copyNoneIfThereIsNone();
        copyRefusedForAnotherTo();
        copyFull();
        copyLooksInItsOrder();
        hurryNoneIfThereIsNone();
        hurryOfFirstAndLast();
        forgeRefusedForAnotherWire();
        forgeRefusedWithLessThan3();
        forgeOf200();
        forgeFull();
        Check.end();
    }

    private static void noneAtFirst() {
        Check.sentence("WIRES .. have RECORDS, each of bytes, none at first");
        SealedWire x = new SealedWire(1);
        for (int on = 0; on < 2; on++) {
            Check.due("count(" + (3 + on) + ")", x.count(3 + on), 0);
            Check.due("wire(" + on + ", 0, -1)", x.wire(on, 0, -1), Pair.NONE);
            Check.due("receive(" + on + ")", x.receive(on), Pair.NONE);
            Check.due("flip(" + on + ", 0, 0, 1)", x.flip(on, 0, 0, 1), Pair.NONE);
            Check.due("drop(" + on + ", 0)", x.drop(on, 0), Pair.NONE);
            Check.due("copy(" + on + ", 0, 0)", x.copy(on, 0, 0), Pair.NONE);
            Check.due("hurry(" + on + ", 0)", x.hurry(on, 0), Pair.NONE);
        }
    }

    private static void atMost12() {
        Check.sentence("at most 12: what is sent comes last");
        for (int on = 0; on < 2; on++) {
            Pair pair = new Pair(2);
            for (int k = 0; k < 12; k++) {
                Check.due("forge", pair.forge(on, Library.bytes(k, 0, 0)), 3);
                Check.due("how many", pair.wire.count(3 + on), k + 1);
                Check.due("it comes last", pair.wire.wire(on, k, 0), k);
            }
            Check.due("forge of a 13th", pair.forge(on, Library.bytes(12, 0, 0)), Pair.FULL);
            Check.due("copy to a 13th", pair.wire.copy(on, 0, on), Pair.FULL);
            Check.due("how many", pair.wire.count(3 + on), 12);
            Check.due("the other", pair.wire.count(4 - on), 0);
        }
    }

    /** So many records on a wire, with the marks a, b, c .. and 3, 4, 5 .. bytes. */
    private static Pair marked(int on, int records) {
        Pair pair = new Pair(3);
        for (int k = 0; k < records; k++) {
            byte[] record = new byte[3 + k];
            record[0] = (byte) ('a' + k);
            pair.forge(on, record);
        }
        return pair;
    }

    private static String marks(Pair pair, int on) {
        StringBuilder seen = new StringBuilder();
        for (int k = 0; k < pair.wire.count(3 + on); k++) {
            int mark = pair.wire.wire(on, k, 0);
            seen.append((char) mark);
            Check.due("its size", pair.wire.wire(on, k, -1), 3 + mark - 'a');
        }
        return seen.toString();
    }

    private static void wireNoneIfThereIsNone() {
        Check.sentence("Byte i of record k of a wire; for i -1 how many it has .. NONE if there is none");
        for (int on = 0; on < 2; on++) {
            for (int records : new int[] {1, 12}) {
                SealedWire x = marked(on, records).wire;
                for (int k : new int[] {-1, records, Integer.MIN_VALUE, Integer.MAX_VALUE}) {
                    Check.due("wire(" + on + ", " + k + ", 0)", x.wire(on, k, 0), Pair.NONE);
                    Check.due("wire(" + on + ", " + k + ", -1)", x.wire(on, k, -1), Pair.NONE);
                }
                Check.due("the first", x.wire(on, 0, 0), 'a');
                Check.due("the last", x.wire(on, records - 1, 0), 'a' + records - 1);
                Check.due("on the other", x.wire(1 - on, 0, 0), Pair.NONE);
                Check.due("on the other", x.wire(1 - on, 0, -1), Pair.NONE);
                for (int wire : NO_WIRE) {
                    Check.due("wire(" + wire + ", 0, 0)", x.wire(wire, 0, 0), Pair.NONE);
                    Check.due("wire(" + wire + ", 0, -1)", x.wire(wire, 0, -1), Pair.NONE);
                }
            }
        }
    }

    private static void wireOfARecordsEnds() {
        Check.sentence("Byte i of record k of a wire; for i -1 how many it has");
        for (int size : new int[] {3, 4, 199, 200}) {
            Pair pair = new Pair(4);
            byte[] record = Library.fill(size, 7);
            record[0] = (byte) 255;
            record[size - 1] = (byte) 128;
            pair.forge(1, record);
            Check.due("byte -1", pair.wire.wire(1, 0, -1), size);
            Check.due("byte 0", pair.wire.wire(1, 0, 0), 255);
            Check.due("the last byte", pair.wire.wire(1, 0, size - 1), 128);
            for (int i : new int[] {size, -2, Integer.MIN_VALUE, Integer.MAX_VALUE}) {
                Check.due("byte " + i, pair.wire.wire(1, 0, i), Pair.NONE);
            }
        }
        // A place that had a longer record before shows nothing of it.
        Pair pair = new Pair(4);
        pair.forge(0, Library.fill(200, 9));
        pair.wire.drop(0, 0);
        pair.forge(0, Library.fill(3, 9));
        Check.due("byte 3 of a shorter one", pair.wire.wire(0, 0, 3), Pair.NONE);
    }

    /** No BODY has more than 197 bytes, so byte 1 of a record that is as told is 0. */
    private static void lengthsOfMoreThan255() {
        Check.sentence("(Byte 0 is the SORT, 1 and 2 tell the length of the BODY, then it.)");
        Pair pair = Pair.open(5);
        pair.name("sixteen bytes it");
        pair.request(1, new byte[64]);
        Check.due("the longest request", pair.wire.wire(0, 0, -1), 3 + 83 + 16);
        Check.due("byte 0", pair.wire.wire(0, 0, 0), 4);
        Check.due("byte 1", pair.wire.wire(0, 0, 1), 0);
        Check.due("byte 2", pair.wire.wire(0, 0, 2), 83 + 16);
        pair.wire.close(0);
        Check.due("the shortest sealed record", pair.wire.wire(0, 1, -1), 3 + 1 + 16);
        Check.due("byte 2", pair.wire.wire(0, 1, 2), 1 + 16);
        Pair greeting = new Pair(5);
        greeting.sameKey(0);
        greeting.forge(0, Library.join(Library.bytes(1, 1, 33), new byte[33]));
        Check.due("receive(0) of a length of 289", greeting.wire.receive(0), Pair.FAILED);
    }

    private static void flipNoneIfThereIsNone() {
        Check.sentence("flip: NONE if there is none");
        for (int on = 0; on < 2; on++) {
            Pair pair = marked(on, 12);
            SealedWire x = pair.wire;
            String before = pair.view();
            for (int k : new int[] {-1, 12, Integer.MIN_VALUE, Integer.MAX_VALUE}) {
                Check.due("flip(" + on + ", " + k + ", 0, 1)", x.flip(on, k, 0, 1), Pair.NONE);
            }
            for (int i : new int[] {-1, -2, 14, Integer.MIN_VALUE, Integer.MAX_VALUE}) {
                Check.due("flip(" + on + ", 11, " + i + ", 1)", x.flip(on, 11, i, 1), Pair.NONE);
            }
            for (int wire : NO_WIRE) {
                Check.due("flip(" + wire + ", 0, 0, 1)", x.flip(wire, 0, 0, 1), Pair.NONE);
            }
            Check.due("flip on the other", x.flip(1 - on, 0, 0, 1), Pair.NONE);
            Check.due("behind NONE all", pair.view(), before);
            Check.due("flip of the first byte", x.flip(on, 11, 0, 1), 'l' ^ 1);
            Check.due("flip of the last byte", x.flip(on, 11, 13, 1), 1);
            Check.due("how many it has", x.wire(on, 11, -1), 14);
        }
    }

    private static void flipByTheLowest8() {
        Check.sentence("becomes itself by exclusive or with bits (lowest 8): what it is");
        int[] bits = {0, 1, 128, 255, 256, 257, -1, -256, Integer.MIN_VALUE, Integer.MAX_VALUE};
        for (int by : bits) {
            for (int was : new int[] {0, 1, 170, 255}) {
                Pair pair = new Pair(6);
                pair.forge(0, Library.bytes(was, was, was));
                int want = (was ^ by) & 255;
                Check.due("flip of " + was + " by " + by, pair.wire.flip(0, 0, 1, by), want);
                Check.due("what it is then", pair.wire.wire(0, 0, 1), want);
                Check.due("the one before", pair.wire.wire(0, 0, 0), was);
                Check.due("the one behind", pair.wire.wire(0, 0, 2), was);
            }
        }
    }

    private static void dropNoneIfThereIsNone() {
        Check.sentence("drop: NONE if there is none");
        for (int on = 0; on < 2; on++) {
            for (int records : new int[] {1, 12}) {
                Pair pair = marked(on, records);
                for (int k : new int[] {-1, records, Integer.MIN_VALUE, Integer.MAX_VALUE}) {
                    Check.due("drop(" + on + ", " + k + ")", pair.wire.drop(on, k), Pair.NONE);
                }
                for (int wire : NO_WIRE) {
                    Check.due("drop(" + wire + ", 0)", pair.wire.drop(wire, 0), Pair.NONE);
                }
                Check.due("drop on the other", pair.wire.drop(1 - on, 0), Pair.NONE);
                Check.due("they stay", marks(pair, on), "abcdefghijkl".substring(0, records));
            }
        }
    }

    private static void dropOfFirstAndLast() {
        Check.sentence("Record k of a wire goes: how many are left");
        for (int on = 0; on < 2; on++) {
            Pair pair = marked(on, 12);
            Check.due("drop of the last", pair.wire.drop(on, 11), 11);
            Check.due("left", marks(pair, on), "abcdefghijk");
            Check.due("drop of the first", pair.wire.drop(on, 0), 10);
            Check.due("left", marks(pair, on), "bcdefghijk");
            Check.due("drop of one between", pair.wire.drop(on, 4), 9);
            Check.due("left", marks(pair, on), "bcdeghijk");
            Pair one = marked(on, 1);
            Check.due("drop of the only one", one.wire.drop(on, 0), 0);
            Check.due("drop of none", one.wire.drop(on, 0), Pair.NONE);
        }
    }

    private static void copyNoneIfThereIsNone() {
        Check.sentence("copy: NONE if there is none");
        for (int on = 0; on < 2; on++) {
            Pair pair = marked(on, 2);
            for (int to = 0; to < 2; to++) {
                for (int k : new int[] {-1, 2, Integer.MIN_VALUE, Integer.MAX_VALUE}) {
                    Check.due("copy(" + on + ", " + k + ", " + to + ")", pair.wire.copy(on, k, to), Pair.NONE);
                }
                for (int wire : NO_WIRE) {
                    Check.due("copy(" + wire + ", 0, " + to + ")", pair.wire.copy(wire, 0, to), Pair.NONE);
                }
                Check.due("copy of the other", pair.wire.copy(1 - on, 0, to), Pair.NONE);
            }
            Check.due("how many", marks(pair, on) + marks(pair, 1 - on), "ab");
            Check.due("copy of the last", pair.wire.copy(on, 1, 1 - on), 1);
            Check.due("copy of the first", pair.wire.copy(on, 0, on), 3);
            Check.due("how many", marks(pair, on) + marks(pair, 1 - on), "abab");
        }
    }

    private static void copyRefusedForAnotherTo() {
        Check.sentence("copy: REFUSED for another to");
        for (int on = 0; on < 2; on++) {
            Pair pair = marked(on, 1);
            for (int to : NO_WIRE) {
                Check.due("copy(" + on + ", 0, " + to + ")", pair.wire.copy(on, 0, to), Pair.REFUSED);
            }
            Check.due("how many", marks(pair, on) + marks(pair, 1 - on), "a");
        }
    }

    private static void copyFull() {
        Check.sentence("copy: FULL");
        for (int on = 0; on < 2; on++) {
            Pair pair = marked(on, 11);
            Check.due("copy to the 12th place", pair.wire.copy(on, 3, on), 12);
            Check.due("copy to a 13th place", pair.wire.copy(on, 3, on), Pair.FULL);
            Check.due("how many", marks(pair, on), "abcdefghijkd");
            Check.due("copy of the 12th to the other", pair.wire.copy(on, 11, 1 - on), 1);
            Check.due("copy of the other to a 13th place", pair.wire.copy(1 - on, 0, on), Pair.FULL);
        }
        Pair pair = new Pair(7);
        pair.forge(0, Library.fill(200, 8));
        Check.due("copy of 200 bytes", pair.wire.copy(0, 0, 1), 1);
        Check.due("all of them", pair.record(1, 0), Library.fill(200, 8));
    }

    private static void copyLooksInItsOrder() {
        Check.sentence("(Looked at in this order:) NONE if there is none; REFUSED for another to; FULL");
        Pair pair = marked(0, 12);
        Check.due("copy of none to no wire", pair.wire.copy(0, 12, 2), Pair.NONE);
        Check.due("copy of none to a full one", pair.wire.copy(0, 12, 0), Pair.NONE);
        Check.due("copy of no wire to no wire", pair.wire.copy(2, 0, 2), Pair.NONE);
        Check.due("copy of the empty one to a full one", pair.wire.copy(1, 0, 0), Pair.NONE);
        Check.due("copy to no wire", pair.wire.copy(0, 11, 2), Pair.REFUSED);
        Check.due("copy to a full one", pair.wire.copy(0, 11, 0), Pair.FULL);
    }

    private static void hurryNoneIfThereIsNone() {
        Check.sentence("hurry: NONE if there is none");
        for (int on = 0; on < 2; on++) {
            for (int records : new int[] {1, 12}) {
                Pair pair = marked(on, records);
                for (int k : new int[] {-1, records, Integer.MIN_VALUE, Integer.MAX_VALUE}) {
                    Check.due("hurry(" + on + ", " + k + ")", pair.wire.hurry(on, k), Pair.NONE);
                }
                for (int wire : NO_WIRE) {
                    Check.due("hurry(" + wire + ", 0)", pair.wire.hurry(wire, 0), Pair.NONE);
                }
                Check.due("hurry on the other", pair.wire.hurry(1 - on, 0), Pair.NONE);
                Check.due("they stay", marks(pair, on), "abcdefghijkl".substring(0, records));
            }
        }
    }

    private static void hurryOfFirstAndLast() {
        Check.sentence("Record k of a wire comes first: 0");
        for (int on = 0; on < 2; on++) {
            Pair pair = marked(on, 12);
            Check.due("hurry of the first", pair.wire.hurry(on, 0), 0);
            Check.due("their order", marks(pair, on), "abcdefghijkl");
            Check.due("hurry of the second", pair.wire.hurry(on, 1), 0);
            Check.due("their order", marks(pair, on), "bacdefghijkl");
            Check.due("hurry of the last", pair.wire.hurry(on, 11), 0);
            Check.due("their order", marks(pair, on), "lbacdefghijk");
            Pair one = marked(on, 1);
            Check.due("hurry of the only one", one.wire.hurry(on, 0), 0);
            Check.due("their order", marks(one, on), "a");
        }
    }

    private static void forgeRefusedForAnotherWire() {
        Check.sentence("forge: REFUSED for another wire");
        Pair pair = new Pair(8);
        for (int wire : NO_WIRE) {
            Check.due("forge(" + wire + ")", pair.forge(wire, new byte[3]), Pair.REFUSED);
            Check.due("forge(" + wire + ") of 200", pair.forge(wire, new byte[200]), Pair.REFUSED);
        }
        Check.due("records", pair.wire.count(3) + pair.wire.count(4), 0);
        Check.due("forge(0)", pair.forge(0, new byte[3]), 3);
        Check.due("forge(1)", pair.forge(1, new byte[3]), 3);
    }

    private static void forgeRefusedWithLessThan3() {
        Check.sentence("forge: REFUSED .. if the TAPE has less than 3 bytes");
        for (int on = 0; on < 2; on++) {
            for (int size = 0; size <= 4; size++) {
                Pair pair = new Pair(8);
                Check.due("forge of " + size, pair.forge(on, new byte[size]), size < 3 ? Pair.REFUSED : size);
                Check.due("records", pair.wire.count(3 + on), size < 3 ? 0 : 1);
            }
        }
        Pair pair = new Pair(8);
        pair.crowd(0);
        Check.due("forge of 2 to a full one", pair.forge(0, new byte[2]), Pair.REFUSED);
    }

    private static void forgeOf200() {
        Check.sentence("The TAPE comes last as a record on a wire: how many bytes it has");
        for (int on = 0; on < 2; on++) {
            Pair pair = marked(on, 1);
            Check.due("forge of 200", pair.forge(on, Library.fill(200, 255)), 200);
            Check.due("it comes last", pair.record(on, 1), Library.fill(200, 255));
        }
    }

    private static void forgeFull() {
        Check.sentence("forge: FULL");
        for (int on = 0; on < 2; on++) {
            Pair pair = marked(on, 11);
            Check.due("forge of a 12th", pair.forge(on, Library.fill(14, 'l')), 14);
            Check.due("forge of a 13th", pair.forge(on, Library.fill(14, 'l')), Pair.FULL);
            Check.due("they stay", marks(pair, on), "abcdefghijkl");
            pair.wire.drop(on, 0);
            Check.due("forge when one is gone", pair.forge(on, Library.bytes('a', 0, 0)), 3);
            Check.due("it comes last", marks(pair, on), "bcdefghijkla");
        }
    }
}
