import java.util.Arrays;

/**
 * Motions, stresses, forces, stiffness and the plan on many frames, one after another: that what is
 * answered has all that the document's words ask of it, without working it out a second time.
 */
public final class AllFramesTest {
    private static final int MOST_CALLS = 512;
    private static final long PRIME = 1_000_000_007L;

    private static final int[][] FOUR = {
        {0, 0, 4, 0, 4, 3, 0, 3}, {0, 0, 1, 0, 2, 0, 5, 0}, {2, 2, 0, 0, 5, 0, 1, 5}, {5, 5, 3, 3, 0, 0, 1, 2},
        {0, 5, 0, 4, 0, 2, 3, 2}, {0, 0, 5, 4, 4, 5, 0, 1}, {3, 1, 1, 1, 2, 4, 2, 0}};
    private static final int[][] FIVE = {
        {0, 0, 5, 0, 5, 5, 0, 5, 2, 3}, {1, 0, 1, 1, 1, 2, 3, 0, 3, 2}};
    private static final int[][] SIX = {
        {0, 0, 5, 0, 5, 5, 0, 5, 0, 1, 5, 4}, {0, 0, 2, 0, 4, 0, 0, 3, 2, 3, 4, 3},
        {2, 0, 4, 2, 2, 4, 0, 2, 1, 1, 3, 3}};

    private final int[] places;
    private final int pins;
    private final int rods;
    private final int[] first;
    private final int[] second;
    private final boolean[] held;
    private final boolean[] in;
    private final int[][] forces;
    private final String name;

    private final RodBench bench = new RodBench();
    private int calls = 0;
    private long[][] motions;
    private long[][] stresses;

    private AllFramesTest(int[] places, int rodsIn, int heldPins) {
        this.places = places;
        pins = places.length / 2;
        rods = pins * (pins - 1) / 2;
        first = new int[rods];
        second = new int[rods];
        held = new boolean[pins];
        in = new boolean[rods];
        forces = new int[pins][2];
        name = "places " + Arrays.toString(places) + ", rods " + Integer.toBinaryString(rodsIn) + ", held "
            + Integer.toBinaryString(heldPins) + ": ";
        layPins(heldPins);
        layRods(rodsIn);
        layForces(rodsIn + heldPins);
    }

    public static void main(String[] args) {
        frames(FOUR, 1, 1);
        frames(FIVE, 3, 1);
        frames(SIX, 101, 3);
        Due.end();
    }

    /** Each so many-th set of rods that are in, with each so many-th set of pins that are held. */
    private static void frames(int[][] all, int rodStep, int heldStep) {
        for (int[] places : all) {
            int pins = places.length / 2;
            for (int rodsIn = 0; rodsIn < 1 << pins * (pins - 1) / 2; rodsIn += rodStep) {
                for (int heldPins = 0; heldPins < 1 << pins && Due.wrongOnes() == 0; heldPins += heldStep) {
                    new AllFramesTest(places, rodsIn, heldPins).run();
                }
            }
        }
    }

    private void layPins(int heldPins) {
        for (int pin = 0; pin < pins; pin++) {
            held[pin] = (heldPins >> pin & 1) == 1;
            bench.pin(places[2 * pin], places[2 * pin + 1]);
            calls++;
            if (held[pin]) {
                bench.hold(pin, true);
                calls++;
            }
        }
    }

    /** Spare ones and gifts in turns: so each of them can be in or out. */
    private void layRods(int rodsIn) {
        int rod = 0;
        for (int b = 1; b < pins; b++) {
            for (int a = 0; a < b; a++) {
                first[rod] = a;
                second[rod] = b;
                in[rod] = (rodsIn >> rod & 1) == 1;
                bench.rod(rod % 3 == 0 ? 4 : 3, a, b, priceOf(rod));
                calls++;
                if (in[rod]) {
                    bench.put(rod, true);
                    calls++;
                }
                rod++;
            }
        }
    }

    private static int priceOf(int rod) {
        return rod % 3 == 0 ? 0 : 1 + rod * 7 % 4;
    }

    private void layForces(int seed) {
        for (int pin = 0; pin < pins; pin++) {
            if (!held[pin] && (seed + pin) % 3 != 0) {
                forces[pin][0] = seed * 7 % 41 - 20;
                forces[pin][1] = seed * 3 % 11 - pin;
                bench.load(pin, forces[pin][0], forces[pin][1]);
                calls++;
            }
        }
    }

    private void run() {
        askRows();
        motionsAreMotions();
        stressesAreStresses();
        rowsAreInOrder("motion", motions);
        rowsAreInOrder("stress", stresses);
        noneIsMissing();
        needed();
        is("stiff()", areAllWhole(motions) ? 1 : 0, bench.stiff());
        loadIsCarried();
        plan();
        Due.holds(name + "no more than 512 calls", calls <= MOST_CALLS);
    }

    private void askRows() {
        motions = new long[called(bench.count(4))][2 * pins];
        for (int i = 0; i < motions.length; i++) {
            for (int column = 0; column < 2 * pins; column++) {
                motions[i][column] = bench.motion(i, column / 2, column % 2);
                calls++;
            }
        }
        stresses = new long[called(bench.count(5))][rods];
        for (int i = 0; i < stresses.length; i++) {
            for (int rod = 0; rod < rods; rod++) {
                stresses[i][rod] = bench.stress(i, rod);
                calls++;
            }
        }
    }

    private int called(int answer) {
        calls++;
        return answer;
    }

    private int gap(int rod, int axis) {
        return places[2 * first[rod] + axis] - places[2 * second[rod] + axis];
    }

    private void motionsAreMotions() {
        for (long[] motion : motions) {
            for (int rod = 0; rod < rods; rod++) {
                long sum = 0;
                for (int axis = 0; axis < 2; axis++) {
                    sum += (motion[2 * first[rod] + axis] - motion[2 * second[rod] + axis]) * gap(rod, axis);
                }
                Due.holds(name + "a motion keeps rod " + rod, !in[rod] || sum == 0);
            }
            for (int pin = 0; pin < pins; pin++) {
                Due.holds(name + "pin " + pin + " stays if it is held",
                    !held[pin] || motion[2 * pin] == 0 && motion[2 * pin + 1] == 0);
            }
        }
    }

    private void stressesAreStresses() {
        for (long[] stress : stresses) {
            for (int pin = 0; pin < pins; pin++) {
                for (int axis = 0; axis < 2; axis++) {
                    Due.holds(name + "a stress is in balance at pin " + pin,
                        held[pin] || sumAt(pin, axis, stress) == 0);
                }
            }
            for (int rod = 0; rod < rods; rod++) {
                Due.holds(name + "no stress in rod " + rod + ", which is out", in[rod] || stress[rod] == 0);
            }
        }
    }

    /** Over the pin's rods: the number times its place less the other one's. */
    private long sumAt(int pin, int axis, long[] numbers) {
        long sum = 0;
        for (int rod = 0; rod < rods; rod++) {
            if (first[rod] == pin) {
                sum += numbers[rod] * gap(rod, axis);
            } else if (second[rod] == pin) {
                sum -= numbers[rod] * gap(rod, axis);
            }
        }
        return sum;
    }

    /**
     * A loose column's row is nought in all that are behind it: so its own column is the last in which
     * it is not nought.
     */
    private void rowsAreInOrder(String what, long[][] rows) {
        int before = -1;
        for (int i = 0; i < rows.length; i++) {
            int own = lastOf(rows[i]);
            Due.holds(name + what + " " + i + " comes behind those ahead", own > before);
            Due.holds(name + what + " " + i + " is above 0 in its own column", own >= 0 && rows[i][own] > 0);
            is("common divisor of " + what + " " + i, 1, commonDivisor(rows[i]));
            for (int other = 0; other < rows.length && own >= 0; other++) {
                Due.holds(name + what + " " + other + " is nought in the column of " + i,
                    other == i || rows[other][own] == 0);
            }
            before = own;
        }
    }

    private static int lastOf(long[] row) {
        int last = row.length - 1;
        while (last >= 0 && row[last] == 0) {
            last--;
        }
        return last;
    }

    private static long commonDivisor(long[] row) {
        long shared = 0;
        for (long number : row) {
            long rest = Math.abs(number);
            while (rest != 0) {
                long next = shared % rest;
                shared = rest;
                rest = next;
            }
        }
        return shared;
    }

    /**
     * There can be no more motions and stresses than by the rank, and the rank is not below the one
     * that is left when a prime counts for nought: so if that one fits to the rows, it is the rank.
     */
    private void noneIsMissing() {
        int free = 0;
        int rodsIn = 0;
        for (boolean one : held) {
            free += one ? 0 : 1;
        }
        for (boolean one : in) {
            rodsIn += one ? 1 : 0;
        }
        int rank = rankByPrime();
        is("count(6)", rank, called(bench.count(6)));
        is("how many motions", 2 * free - rank, motions.length);
        is("how many stresses", rodsIn - rank, stresses.length);
    }

    private int rankByPrime() {
        long[][] lines = new long[rods][2 * pins];
        for (int rod = 0; rod < rods; rod++) {
            for (int axis = 0; axis < 2 && in[rod]; axis++) {
                lines[rod][2 * first[rod] + axis] = held[first[rod]] ? 0 : Math.floorMod(gap(rod, axis), PRIME);
                lines[rod][2 * second[rod] + axis] = held[second[rod]] ? 0 : Math.floorMod(-gap(rod, axis), PRIME);
            }
        }
        int rank = 0;
        for (int column = 0; column < 2 * pins; column++) {
            int found = rank;
            while (found < rods && lines[found][column] == 0) {
                found++;
            }
            if (found < rods) {
                long[] line = lines[found];
                lines[found] = lines[rank];
                lines[rank] = line;
                rank++;
                clearBelow(lines, rank, column);
            }
        }
        return rank;
    }

    private static void clearBelow(long[][] lines, int from, int column) {
        long[] own = lines[from - 1];
        for (int i = from; i < lines.length; i++) {
            long times = own[column];
            long off = lines[i][column];
            for (int j = 0; j < own.length && off != 0; j++) {
                lines[i][j] = Math.floorMod(times * lines[i][j] % PRIME - off * own[j] % PRIME, PRIME);
            }
        }
    }

    private void needed() {
        int many = 0;
        for (int rod = 0; rod < rods; rod++) {
            boolean none = in[rod];
            for (long[] stress : stresses) {
                none &= stress[rod] == 0;
            }
            many += none ? 1 : 0;
            is("rodTold(" + rod + ", 5)", none ? 1 : 0, called(bench.rodTold(rod, 5)));
        }
        is("count(9)", many, called(bench.count(9)));
    }

    private boolean areAllWhole(long[][] rows) {
        for (long[] motion : rows) {
            if (!isWhole(motion)) {
                return false;
            }
        }
        return true;
    }

    /** All pins' differences are the same c times their places' differences, turned by a quarter. */
    private boolean isWhole(long[] motion) {
        int wide = places[2] - places[0];
        int high = places[3] - places[1];
        long above = wide != 0 ? motion[3] - motion[1] : motion[0] - motion[2];
        long below = wide != 0 ? wide : high;
        for (int pin = 1; pin < pins; pin++) {
            long right = motion[2 * pin] - motion[0];
            long up = motion[2 * pin + 1] - motion[1];
            if (right * below != -above * (places[2 * pin + 1] - places[1])
                || up * below != above * (places[2 * pin] - places[0])) {
                return false;
            }
        }
        return true;
    }

    private void loadIsCarried() {
        int gives = firstAtWork();
        is("gives()", gives, called(bench.gives()));
        is("carry()", gives == RodBench.NONE ? 1 : 0, called(bench.carry()));
        long[] above = new long[rods];
        long[] below = new long[rods];
        for (int rod = 0; rod < rods; rod++) {
            above[rod] = bench.force(rod, 0);
            below[rod] = bench.force(rod, 1);
            calls += 2;
        }
        for (int rod = 0; rod < rods; rod++) {
            if (gives != RodBench.NONE) {
                is("force(" + rod + ", 0)", RodBench.NO, above[rod]);
                is("force(" + rod + ", 1)", RodBench.NO, below[rod]);
            } else {
                Due.holds(name + "below the line of rod " + rod, below[rod] > 0);
                is("lowest terms of rod " + rod, 1, commonDivisor(new long[] {above[rod], below[rod]}));
                Due.holds(name + "no force in rod " + rod + " if it is out or loose",
                    above[rod] == 0 || in[rod] && !isLoose(rod));
            }
        }
        if (gives == RodBench.NONE) {
            forcesAreThose(above, below);
        }
    }

    private int firstAtWork() {
        for (int i = 0; i < motions.length; i++) {
            long work = 0;
            for (int column = 0; column < 2 * pins; column++) {
                work += motions[i][column] * forces[column / 2][column % 2];
            }
            if (work != 0) {
                return i;
            }
        }
        return RodBench.NONE;
    }

    private boolean isLoose(int rod) {
        for (long[] stress : stresses) {
            if (lastOf(stress) == rod) {
                return true;
            }
        }
        return false;
    }

    private void forcesAreThose(long[] above, long[] below) {
        long shared = 1;
        for (long one : below) {
            shared = shared / commonDivisor(new long[] {shared, one}) * one;
        }
        long[] numbers = new long[rods];
        for (int rod = 0; rod < rods; rod++) {
            numbers[rod] = shared / below[rod] * above[rod];
        }
        for (int pin = 0; pin < pins; pin++) {
            for (int axis = 0; axis < 2; axis++) {
                is("the forces at pin " + pin, held[pin] ? 0 : shared * forces[pin][axis],
                    held[pin] ? 0 : sumAt(pin, axis, numbers));
            }
        }
    }

    /** The plan's rods are put in one by one; those that make the motions no fewer come out again. */
    private void plan() {
        int cheapest = called(bench.cheapest());
        int[] plan = new int[rods + 1];
        for (int i = 0; i <= rods; i++) {
            plan[i] = called(bench.plan(i));
        }
        int many = 0;
        int sum = 0;
        int left = motions.length;
        for (int price = 0; price <= 4; price++) {
            for (int rod = 0; rod < rods; rod++) {
                if (!in[rod] && priceOf(rod) == price) {
                    called(bench.put(rod, true));
                    int now = called(bench.count(4));
                    if (now < left) {
                        is("plan(" + many + ")", rod, plan[many]);
                        many++;
                        sum += price;
                    } else {
                        called(bench.put(rod, false));
                    }
                    left = now;
                }
            }
        }
        is("plan(" + many + ")", RodBench.NONE, plan[many]);
        is("cheapest()", called(bench.stiff()) == 1 ? sum : RodBench.NONE, cheapest);
    }

    private void is(String what, long want, long got) {
        Due.is(name + what, want, got);
    }
}
