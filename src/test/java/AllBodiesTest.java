import java.util.Arrays;

/**
 * What holds by counts (could, bodies, surplus), for each set of rods between two to six pins, against
 * the document's words: which sets of rods are even, part by part, and which sets of pins are bodies.
 */
public final class AllBodiesTest {
    private static final int MOST_CALLS = 512;
    private static final int LEAST_PINS = 2;
    private static final int MOST_PINS = 6;

    private final int pins;
    private final int rods;
    private final int[] first;
    private final int[] second;
    /** Of each set of rods (rod r is bit r): how many its greatest even part has. */
    private final int[] mostEven;
    /** Of each set of pins (pin p is bit p): the rods between them. */
    private final int[] between;

    private RodBench bench;
    private int calls = MOST_CALLS;
    private int in = 0;

    private AllBodiesTest(int pins) {
        this.pins = pins;
        rods = pins * (pins - 1) / 2;
        first = new int[rods];
        second = new int[rods];
        mostEven = new int[1 << rods];
        between = new int[1 << pins];
        nameEnds();
        findRodsBetween();
        findMostEven();
    }

    public static void main(String[] args) {
        for (int pins = LEAST_PINS; pins <= MOST_PINS; pins++) {
            new AllBodiesTest(pins).run();
        }
        Due.end();
    }

    private void nameEnds() {
        int rod = 0;
        for (int a = 0; a < pins; a++) {
            for (int b = a + 1; b < pins; b++) {
                first[rod] = a;
                second[rod] = b;
                rod++;
            }
        }
    }

    private void findRodsBetween() {
        for (int set = 0; set < between.length; set++) {
            for (int rod = 0; rod < rods; rod++) {
                if ((set >> first[rod] & 1) == 1 && (set >> second[rod] & 1) == 1) {
                    between[set] |= 1 << rod;
                }
            }
        }
    }

    /** A set is even if each part with a rod less is, and it has no more rods itself than it may. */
    private void findMostEven() {
        for (int set = 1; set < mostEven.length; set++) {
            int ends = 0;
            int most = 0;
            boolean partsAreEven = true;
            for (int rod = 0; rod < rods; rod++) {
                if ((set >> rod & 1) == 1) {
                    int part = set & ~(1 << rod);
                    ends |= 1 << first[rod] | 1 << second[rod];
                    most = Math.max(most, mostEven[part]);
                    partsAreEven &= mostEven[part] == Integer.bitCount(part);
                }
            }
            int size = Integer.bitCount(set);
            boolean isEven = partsAreEven && size <= 2 * Integer.bitCount(ends) - 3;
            mostEven[set] = isEven ? size : most;
        }
    }

    /** Through all sets of rods, each but for one rod as the one before. */
    private void run() {
        for (int i = 0; i < 1 << rods && Due.wrongOnes() == 0; i++) {
            int set = i ^ i >> 1;
            if (calls + callsFor(set) > MOST_CALLS) {
                start();
            }
            for (int rod = 0; rod < rods; rod++) {
                if ((set >> rod & 1) != (in >> rod & 1)) {
                    bench.put(rod, (set >> rod & 1) == 1);
                    calls++;
                }
            }
            in = set;
            ask();
        }
    }

    /** At most: the puts, three questions, all rods and all pins of all bodies. */
    private int callsFor(int set) {
        return rods + 4 + rods + (Integer.bitCount(set) + 1) * (pins + 1);
    }

    private void start() {
        bench = new RodBench();
        for (int pin = 0; pin < pins; pin++) {
            bench.pin(pin % 3, pin / 3);
        }
        for (int rod = 0; rod < rods; rod++) {
            bench.rod(4, second[rod], first[rod], 0);
        }
        calls = pins + rods;
        in = 0;
    }

    private void ask() {
        int[] bodies = bodies();
        is("could()", mostEven[in] == 2 * pins - 3 ? 1 : 0, bench.could());
        is("count(7)", bodies.length, bench.count(7));
        is("count(8)", Integer.bitCount(in) - mostEven[in], bench.count(8));
        for (int body = 0; body < bodies.length; body++) {
            askBody(body, bodies[body]);
        }
        is("body(" + bodies.length + ", 0)", RodBench.BAD, bench.body(bodies.length, 0));
        for (int rod = 0; rod < rods; rod++) {
            is("rodTold(" + rod + ", 6)", leastBodyOf(rod, bodies), bench.rodTold(rod, 6));
        }
    }

    private void askBody(int body, int set) {
        int i = 0;
        for (int pin = 0; pin < pins; pin++) {
            if ((set >> pin & 1) == 1) {
                is("body(" + body + ", " + i + ")", pin, bench.body(body, i));
                i++;
            }
        }
        is("body(" + body + ", " + i + ")", RodBench.NONE, bench.body(body, i));
    }

    private void is(String call, long want, long got) {
        calls++;
        Due.is(pins + " pins, rods " + Integer.toBinaryString(in) + ": " + call, want, got);
    }

    private int leastBodyOf(int rod, int[] bodies) {
        for (int body = 0; body < bodies.length; body++) {
            if ((between[bodies[body]] >> rod & 1) == 1) {
                return body;
            }
        }
        return RodBench.NONE;
    }

    private int[] bodies() {
        int[] bodies = new int[rods];
        int many = 0;
        for (int set = 0; set < between.length; set++) {
            if (isBody(set)) {
                int place = many;
                while (place > 0 && comesAhead(set, bodies[place - 1])) {
                    bodies[place] = bodies[place - 1];
                    place--;
                }
                bodies[place] = set;
                many++;
            }
        }
        return Arrays.copyOf(bodies, many);
    }

    private boolean isBody(int set) {
        for (int other = 0; other < between.length; other++) {
            if (other != set && (other & set) == set && isWhole(other)) {
                return false;
            }
        }
        return isWhole(set);
    }

    private boolean isWhole(int set) {
        int size = Integer.bitCount(set);
        return size >= 2 && mostEven[in & between[set]] == 2 * size - 3;
    }

    /** By the least pins, then by the second ones, and so on: no body holds another. */
    private static boolean comesAhead(int set, int other) {
        int unlike = set ^ other;
        return (set & unlike & -unlike) != 0;
    }
}
