import java.util.Random;

/** All promises: long runs by seeds, each call's answer beside that of the model. */
public final class RandomRunsTest {
    private static final int RUNS = 1500, CALLS = 512;
    private static final int[] ODD = {-1, 2, -2, 8, 5, Integer.MAX_VALUE, Integer.MIN_VALUE, 255, 256, 7, 13};

    private final Random dice;
    private final int run;
    private final SealedWire wire;
    private final Model model;
    private int calls;

    private RandomRunsTest(int run) {
        this.run = run;
        dice = new Random(run);
        int seed = dice.nextInt();
        wire = new SealedWire(seed);
        model = new Model(seed);
    }

    public static void main(String[] args) {
        for (int run = 0; run < RUNS && !Check.anyWrong(); run++) {
            new RandomRunsTest(run).play();
        }
        Check.end();
    }

    private void play() {
        if (dice.nextInt(10) > 0) {
            open();
        }
        while (calls < CALLS - 40 && !Check.anyWrong()) {
            act();
            probe();
        }
    }

    private void due(String call, int got, int want) {
        calls++;
        Check.due("run " + run + ", call " + calls + ": " + call, got, want);
    }

    private int odd() {
        return ODD[dice.nextInt(ODD.length)];
    }

    /** Mostly 0 or 1, at times a number that is none of them. */
    private int two() {
        return dice.nextInt(20) == 0 ? odd() : dice.nextInt(2);
    }

    private int place() {
        return dice.nextInt(12) == 0 ? odd() : dice.nextInt(dice.nextInt(4) == 0 ? 12 : 3);
    }

    private void open() {
        int k = dice.nextInt(8);
        byte[] text = bytes(dice.nextInt(201));
        tape(text);
        key(0, k);
        tape(text);
        key(1, k);
        idle(0);
        idle(1);
        while (dice.nextInt(6) > 0 && model.onWire(0) > 0) {
            drop(0, 0);
        }
        while (dice.nextInt(6) > 0 && model.onWire(1) > 0) {
            drop(1, 0);
        }
        due("greet(" + k + ")", wire.greet(k), model.greet(k));
        receive(0);
        if (dice.nextInt(10) == 0) {
            act();
        }
        receive(1);
        receive(0);
    }

    private byte[] bytes(int size) {
        byte[] made = new byte[size];
        dice.nextBytes(made);
        return made;
    }

    private void tape(byte[] bytes) {
        byte[] padded = java.util.Arrays.copyOf(bytes, (bytes.length + 19) / 20 * 20);
        java.nio.ByteBuffer numbers = java.nio.ByteBuffer.wrap(padded);
        for (int i = 0; i < padded.length; i += 20) {
            feed(numbers.getInt(), numbers.getInt(), numbers.getInt(), numbers.getInt(), numbers.getInt());
        }
        due("end(" + bytes.length + ")", wire.end(bytes.length), model.end(bytes.length));
    }

    private void feed(int a, int b, int c, int d, int e) {
        due("feed", wire.feed(a, b, c, d, e), model.feed(a, b, c, d, e));
    }

    private void key(int side, int k) {
        due("key(" + side + ", " + k + ")", wire.key(side, k), model.key(side, k));
    }

    private void idle(int side) {
        due("idle(" + side + ")", wire.idle(side), model.idle(side));
    }

    private void receive(int on) {
        due("receive(" + on + ")", wire.receive(on), model.receive(on));
    }

    private void drop(int on, int k) {
        due("drop(" + on + ", " + k + ")", wire.drop(on, k), model.drop(on, k));
    }

    private void forge(int on) {
        due("forge(" + on + ")", wire.forge(on), model.forge(on));
    }

    private void act() {
        int n = dice.nextInt(100);
        if (n < 14) {
            request();
        } else if (n < 48) {
            receive(two());
        } else if (n < 60) {
            rename();
        } else if (n < 72) {
            tamper();
        } else if (n < 78) {
            forgeWithKeys();
        } else if (n < 83) {
            int side = two();
            due("renew(" + side + ")", wire.renew(side), model.renew(side));
        } else if (n < 87) {
            due("answer()", wire.answer(), model.answer());
        } else if (n < 91) {
            due("stored()", wire.stored(), model.stored());
        } else if (n < 94) {
            if (!model.isOpen(0) || !model.isOpen(1) || dice.nextInt(6) == 0) {
                open();
            }
        } else {
            rare();
        }
    }

    private void request() {
        int op = dice.nextInt(15) == 0 ? odd() : dice.nextInt(5);
        int most = dice.nextInt(6) == 0 ? 68 : 20;
        boolean bare = (op == 0 || op == 2) && dice.nextInt(8) > 0;
        tape(bytes(bare ? 0 : dice.nextInt(most)));
        due("request(" + op + ")", wire.request(op), model.request(op));
    }

    private void rename() {
        int size = dice.nextInt(12) == 0 ? dice.nextInt(20) : 1;
        byte[] name = new byte[size];
        java.util.Arrays.fill(name, (byte) (97 + dice.nextInt(26)));
        tape(name);
        due("name()", wire.name(), model.name());
    }

    private void tamper() {
        int on = two();
        int k = place();
        switch (dice.nextInt(6)) {
            case 0:
                int i = dice.nextInt(8) == 0 ? odd() : dice.nextInt(40);
                int bits = dice.nextInt(512);
                due("flip(" + on + ", " + k + ", " + i + ", " + bits + ")", wire.flip(on, k, i, bits),
                    model.flip(on, k, i, bits));
                if (dice.nextInt(3) > 0) {
                    due("flip back", wire.flip(on, k, i, bits), model.flip(on, k, i, bits));
                }
                break;
            case 1:
                drop(on, k);
                break;
            case 2:
                int to = two();
                due("copy(" + on + ", " + k + ", " + to + ")", wire.copy(on, k, to), model.copy(on, k, to));
                break;
            case 3:
                due("hurry(" + on + ", " + k + ")", wire.hurry(on, k), model.hurry(on, k));
                break;
            case 4:
                tape(bytes(dice.nextInt(201)));
                forge(on);
                break;
            default:
                tape(Library.record(dice.nextInt(6), bytes(new int[] {0, 32, 33, 64, 17, 16}[dice.nextInt(6)])));
                forge(on);
                break;
        }
    }

    /** What nobody without the keys could forge: well sealed, and seldom well made. */
    private void forgeWithKeys() {
        int on = dice.nextInt(2);
        byte[] plain = dice.nextInt(3) == 0 ? bytes(dice.nextInt(182)) : nearlyMade(on);
        byte[] record = model.sealedAsDue(on, plain);
        if (record == null || model.onWire(on) == 12) {
            return;
        }
        tape(record);
        forge(on);
        due("hurry", wire.hurry(on, model.onWire(on) - 1), model.hurry(on, model.onWire(on) - 1));
        receive(on);
    }

    private byte[] nearlyMade(int on) {
        int kind = dice.nextInt(10) == 0 ? dice.nextInt(4) : 0;
        if (kind > 0) {
            return Library.join(Library.bytes(kind), bytes(dice.nextInt(2)));
        }
        if (on == 1) {
            byte[] value = bytes(dice.nextInt(4) == 0 ? 63 + dice.nextInt(3) : 0);
            return Library.join(Library.bytes(0, dice.nextInt(5)), value);
        }
        int length = dice.nextInt(18);
        int missing = dice.nextInt(6) == 0 ? 1 : 0;
        byte[] data = bytes(dice.nextInt(2) == 0 ? 0 : 63 + dice.nextInt(3));
        return Library.join(Library.bytes(0, dice.nextInt(6), length), bytes(Math.max(0, length - missing)), data);
    }

    private void rare() {
        int side = two();
        int k = dice.nextInt(9);
        switch (dice.nextInt(8)) {
            case 0:
                due("close(" + side + ")", wire.close(side), model.close(side));
                break;
            case 1:
                idle(side);
                break;
            case 2:
                due("forget(" + side + ", " + k + ")", wire.forget(side, k), model.forget(side, k));
                break;
            case 3:
                key(side, k);
                break;
            case 4:
                due("greet(" + k + ")", wire.greet(k), model.greet(k));
                break;
            case 5:
                feed(dice.nextInt(), dice.nextInt(), dice.nextInt(), dice.nextInt(), dice.nextInt());
                break;
            case 6:
                int n = dice.nextInt(30) - 2;
                due("end(" + n + ")", wire.end(n), model.end(n));
                break;
            default:
                tape(bytes(dice.nextInt(201)));
                feed(1, 2, 3, 4, 5);
                forge(side);
                break;
        }
    }

    private void probe() {
        int side = two();
        int what = dice.nextInt(15) == 0 ? odd() : dice.nextInt(8) - 1;
        int k = place();
        int i = dice.nextInt(10) == 0 ? odd() : dice.nextInt(80) - 1;
        switch (dice.nextInt(5)) {
            case 0:
                due("look(" + side + ", " + what + ")", wire.look(side, what), model.look(side, what));
                break;
            case 1:
                due("count(" + what + ")", wire.count(what), model.count(what));
                break;
            case 2:
                due("octet(" + i + ")", wire.octet(i), model.octet(i));
                break;
            default:
                due("wire(" + side + ", " + k + ", " + i + ")", wire.wire(side, k, i), model.wire(side, k, i));
                break;
        }
    }
}
