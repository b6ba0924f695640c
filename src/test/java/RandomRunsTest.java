import java.util.Random;

/** Runs of calls, drawn with fixed seeds, on the class and on the Reference: they must agree. */
public final class RandomRunsTest {
    private static final int RUNS = 1200;
    /** An object is used for so many calls at most; each sixth run takes them all. */
    private static final int MOST_CALLS = 512;
    /** A change and what is asked behind it take no more calls than these. */
    private static final int MOST_AT_ONCE = 6;

    private final Random random;
    private final RodBench bench = new RodBench();
    private final Reference reference = new Reference();
    private final StringBuilder calls = new StringBuilder();
    private int left;
    /** The greatest place: small frames have more pins on a line. */
    private final int wide;

    private RandomRunsTest(long seed) {
        random = new Random(seed);
        left = seed % 6 == 0 ? MOST_CALLS : 30 + random.nextInt(200);
        wide = 1 + random.nextInt(5);
    }

    public static void main(String[] args) {
        for (int seed = 0; seed < RUNS && Due.wrongOnes() == 0; seed++) {
            new RandomRunsTest(seed).run();
        }
        Due.end();
    }

    private void run() {
        int start = random.nextInt(7);
        for (int i = 0; i < start; i++) {
            pin();
        }
        int many = random.nextInt(16);
        for (int i = 0; i < many; i++) {
            rod();
        }
        while (left >= MOST_AT_ONCE && Due.wrongOnes() == 0) {
            if (random.nextInt(3) == 0) {
                change();
            }
            ask();
        }
        while (left > 0 && Due.wrongOnes() == 0) {
            askRod();
        }
        Due.holds("no more calls than were meant: " + left, left == 0 || Due.wrongOnes() > 0);
    }

    private void change() {
        switch (random.nextInt(9)) {
            case 0: pin(); break;
            case 1: move(); break;
            case 2: hold(); break;
            case 3: case 4: rod(); break;
            case 5: case 6: put(); break;
            default: load(); break;
        }
    }

    private void pin() {
        int x = place();
        int y = place();
        check("pin(" + x + ", " + y + ")", reference.pin(x, y), bench.pin(x, y));
    }

    private void move() {
        int pin = pinNumber();
        int x = place();
        int y = place();
        check("move(" + pin + ", " + x + ", " + y + ")", reference.move(pin, x, y), bench.move(pin, x, y));
    }

    private void hold() {
        int pin = pinNumber();
        boolean held = random.nextInt(3) == 0;
        check("hold(" + pin + ", " + held + ")", reference.hold(pin, held), bench.hold(pin, held));
    }

    private void rod() {
        int kind = small(5);
        int a = pinNumber();
        int b = pinNumber();
        int price = kind == 3 ? 1 + random.nextInt(9) : 0;
        if (random.nextInt(15) == 0) {
            price = new int[] {-1, 0, 1, 1000, 1001, Integer.MIN_VALUE}[random.nextInt(6)];
        }
        check("rod(" + kind + ", " + a + ", " + b + ", " + price + ")", reference.rod(kind, a, b, price),
            bench.rod(kind, a, b, price));
    }

    private void put() {
        int rod = rodNumber();
        boolean in = random.nextInt(3) != 0;
        check("put(" + rod + ", " + in + ")", reference.put(rod, in), bench.put(rod, in));
    }

    private void load() {
        int pin = pinNumber();
        int x = random.nextInt(20) == 0 ? wild() : random.nextInt(3) == 0 ? 0 : random.nextInt(41) - 20;
        int y = random.nextInt(20) == 0 ? wild() : random.nextInt(3) == 0 ? 0 : random.nextInt(41) - 20;
        check("load(" + pin + ", " + x + ", " + y + ")", reference.load(pin, x, y), bench.load(pin, x, y));
    }

    private void ask() {
        switch (random.nextInt(17)) {
            case 0: askPin(); break;
            case 1: case 2: askRod(); break;
            case 3: case 4: askMotion(); break;
            case 5: case 6: askStress(); break;
            case 7: check("stiff()", reference.stiff(), bench.stiff()); break;
            case 8: check("tight()", reference.tight(), bench.tight()); break;
            case 9: case 10: askForce(); break;
            case 11: askBody(); break;
            case 12: askPlan(); break;
            case 13: case 14: askTray(); break;
            default: {
                int what = small(10);
                check("count(" + what + ")", reference.count(what), bench.count(what));
            }
        }
    }

    private void askPin() {
        int pin = pinNumber();
        int what = small(6);
        check("pinTold(" + pin + ", " + what + ")", reference.pinTold(pin, what), bench.pinTold(pin, what));
    }

    private void askRod() {
        int rod = rodNumber();
        int what = small(7);
        check("rodTold(" + rod + ", " + what + ")", reference.rodTold(rod, what), bench.rodTold(rod, what));
    }

    private void askMotion() {
        int i = small(6);
        int pin = pinNumber();
        int what = small(2);
        check("motion(" + i + ", " + pin + ", " + what + ")", reference.motion(i, pin, what),
            bench.motion(i, pin, what));
    }

    private void askStress() {
        int i = random.nextInt(2) == 0 ? 0 : small(6);
        int rod = rodNumber();
        check("stress(" + i + ", " + rod + ")", reference.stress(i, rod), bench.stress(i, rod));
    }

    private void askForce() {
        check("carry()", reference.carry(), bench.carry());
        check("gives()", reference.gives(), bench.gives());
        int rod = rodNumber();
        int what = small(2);
        check("force(" + rod + ", " + what + ")", reference.force(rod, what), bench.force(rod, what));
    }

    private void askBody() {
        check("could()", reference.could(), bench.could());
        int body = small(5);
        int i = small(6);
        check("body(" + body + ", " + i + ")", reference.body(body, i), bench.body(body, i));
    }

    private void askPlan() {
        int i = small(6);
        check("plan(" + i + ")", reference.plan(i), bench.plan(i));
        check("cheapest()", reference.cheapest(), bench.cheapest());
    }

    private void askTray() {
        int tray = small(6);
        int what = small(5);
        int n = small(8);
        if (random.nextBoolean()) {
            check("tray(" + tray + ", " + what + ", " + n + ")", reference.tray(tray, what, n),
                bench.tray(tray, what, n));
        }
        for (int i = 0; i < 2; i++) {
            int deed = small(9);
            int number = random.nextInt(4) == 0 ? random.nextInt(206) - 103 : small(10);
            check("forge(" + tray + ", " + deed + ", " + number + ")", reference.forge(tray, deed, number),
                bench.forge(tray, deed, number));
            check("status()", reference.status(), bench.status());
        }
    }

    private int place() {
        return random.nextInt(40) == 0 ? wild() : random.nextInt(wide + 1);
    }

    private int pinNumber() {
        return random.nextInt(40) == 0 ? wild() : random.nextInt(Math.max(1, reference.count(0)));
    }

    private int rodNumber() {
        return random.nextInt(40) == 0 ? wild() : random.nextInt(Math.max(1, reference.count(2)));
    }

    private int small(int below) {
        return random.nextInt(30) == 0 ? wild() : random.nextInt(below);
    }

    private int wild() {
        int[] wilds = {-1, -2, 6, 7, 15, 20, 21, -20, -21, 100, 101, -100, -101, Integer.MAX_VALUE, Integer.MIN_VALUE};
        return wilds[random.nextInt(wilds.length)];
    }

    private void check(String call, long want, long got) {
        left--;
        calls.append(call).append('\n');
        Due.is(call, want, got);
        if (want != got) {
            System.out.println("the calls of this run:\n" + calls);
        }
    }
}
