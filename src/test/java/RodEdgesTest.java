import java.util.function.Consumer;

/**
 * The sentences about rods that name an edge, one test each: promises 5 to 7 and 9, and the terms
 * they stand on.
 */
public final class RodEdgesTest {
    private RodEdgesTest() {
    }

    public static void main(String[] args) {
        kindsAre0To4();
        kindOutsideIsBad();
        endsOutsideAreBad();
        twoUnlikePins();
        pricesOfEachKind();
        priceOutsideIsBad();
        noTwoRodsOfTheSameTwo();
        fifteenRodsAtMost();
        rodIsRefusedForTheFirstReason();
        refusedRodsTakeNoNumber();
        inOrOutAsTheyCome();
        putOutsideIsBad();
        putOfAnotherKindIsBad();
        putTellsWhetherItWasOtherwise();
        countOutsideIsBad();
        countsWithNothingThere();
        countsWithAllHeldAndFull();
        rodToldOutsideIsBad();
        pricesToldAtTheirEdges();
        neededOnlyIfIn();
        neededFromAllToNone();
        bodyOfARodOrNone();
        rodsMayJoinHeldPins();
        Due.end();
    }

    private static String call(int kind, int a, int b, int price) {
        return "rod(" + kind + ", " + a + ", " + b + ", " + price + ")";
    }

    /** The few, in which pins 1 and 3 have no rod yet. */
    private static void badRod(Consumer<RodBench> frame, int kind, int a, int b, int price) {
        Telling.refused(call(kind, a, b, price), -2, frame, x -> x.rod(kind, a, b, price));
    }

    private static void kindsAre0To4() {
        for (int kind = -3; kind <= 8; kind++) {
            RodBench x = new RodBench();
            Edges.few(x);
            int price = kind == 3 ? 5 : 0;
            boolean inside = 0 <= kind && kind <= 4;
            Due.is(call(kind, 3, 1, price), inside ? 5 : -2, x.rod(kind, 3, 1, price));
            Due.is("rodTold(5, 0)", inside ? kind : -2, x.rodTold(5, 0));
        }
    }

    private static void kindOutsideIsBad() {
        for (int far : Edges.outside(0, 4)) {
            badRod(Edges::few, far, 1, 3, 0);
            badRod(Edges::few, far, 1, 3, 1);
        }
    }

    private static void endsOutsideAreBad() {
        for (int far : Edges.outside(0, 3)) {
            badRod(Edges::few, 0, far, 3, 0);
            badRod(Edges::few, 3, 1, far, 9);
            badRod(Edges::few, 4, far, far, 0);
        }
        for (int far : Edges.outside(0, 5)) {
            badRod(Edges::sixPins, 0, far, 5, 0);
            badRod(Edges::sixPins, 0, 5, far, 0);
        }
        RodBench x = new RodBench();
        Edges.sixPins(x);
        Due.is("the last and the first pin", 0, x.rod(0, 5, 0, 0));
        x = new RodBench();
        x.pin(0, 0);
        Due.is("a single pin: rod(0, 0, 1, 0)", -2, x.rod(0, 0, 1, 0));
        Due.is("a single pin: rod(0, 0, 0, 0)", -2, x.rod(0, 0, 0, 0));
    }

    /** 'BAD: also a = b', of each pin and each kind. */
    private static void twoUnlikePins() {
        for (int pin = 0; pin < 4; pin++) {
            for (int kind = 0; kind < 5; kind++) {
                badRod(Edges::few, kind, pin, pin, kind == 3 ? 1 : 0);
            }
        }
        RodBench x = new RodBench();
        Edges.few(x);
        Due.is("a first one and a second one", 5, x.rod(0, 3, 1, 0));
        Due.is("its first", 3, x.rodTold(5, 1));
        Due.is("its second", 1, x.rodTold(5, 2));
    }

    /** 'only 0 of KINDS but 3; 1 .. 1000 of 3': the first and the last that are allowed, and next to them. */
    private static void pricesOfEachKind() {
        int[] prices = {-1001, -1000, -1, 0, 1, 2, 999, 1000, 1001, 1002};
        for (int kind = 0; kind < 5; kind++) {
            for (int price : prices) {
                boolean right = kind == 3 ? 1 <= price && price <= 1000 : price == 0;
                RodBench x = new RodBench();
                Edges.few(x);
                Due.is(call(kind, 1, 3, price), right ? 5 : -2, x.rod(kind, 1, 3, price));
                Due.is("rodTold(5, 3)", right ? price : -2, x.rodTold(5, 3));
            }
        }
    }

    private static void priceOutsideIsBad() {
        for (int far : Edges.outside(0, 1000)) {
            for (int kind = 0; kind < 5; kind++) {
                badRod(Edges::few, kind, 1, 3, far);
            }
        }
        for (int kind = 0; kind < 5; kind++) {
            badRod(Edges::few, kind, 1, 3, kind == 3 ? 0 : 1);
            badRod(Edges::few, kind, 1, 3, kind == 3 ? 1001 : 1000);
        }
    }

    /** 'no two RODS the same two': of any kinds, in or out, in either order. */
    private static void noTwoRodsOfTheSameTwo() {
        int[][] ends = {{0, 1}, {2, 1}, {2, 3}, {3, 0}, {0, 2}};
        for (int[] two : ends) {
            for (int kind = 0; kind < 5; kind++) {
                int other = kind;
                int price = kind == 3 ? 70 : 0;
                Telling.refused(call(kind, two[0], two[1], price), -3, Edges::few,
                    x -> x.rod(other, two[0], two[1], price));
                Telling.refused(call(kind, two[1], two[0], price), -3, Edges::few,
                    x -> x.rod(other, two[1], two[0], price));
            }
        }
        RodBench x = new RodBench();
        Edges.few(x);
        x.put(4, false);
        Due.is("of one that is out again", -3, x.rod(0, 0, 2, 0));
        x.move(0, 5, 5);
        Due.is("of one whose pin has moved", -3, x.rod(0, 0, 2, 0));
        Due.is("two that have none", 5, x.rod(0, 1, 3, 0));
    }

    /** 'RODS (15 at most)': the fifteenth comes, and then all pairs have one. */
    private static void fifteenRodsAtMost() {
        RodBench x = new RodBench();
        Edges.sixPins(x);
        int next = 0;
        for (int a = 5; a >= 0; a--) {
            for (int b = 0; b < a; b++) {
                Due.is(call(3, a, b, 1 + next), next, x.rod(3, a, b, 1 + next));
                next++;
                Due.is("count(2)", next, x.count(2));
            }
        }
        Due.is("the last one's price", 15, x.rodTold(14, 3));
        Due.is("no sixteenth: rodTold(15, 0)", -2, x.rodTold(15, 0));
        for (int a = 0; a < 6; a++) {
            for (int b = 0; b < 6; b++) {
                if (a != b) {
                    int first = a;
                    int second = b;
                    Telling.refused("full: " + call(0, a, b, 0), -3, Edges::full, y -> y.rod(0, first, second, 0));
                }
            }
        }
    }

    /** BAD before STATE, and both before FULL. */
    private static void rodIsRefusedForTheFirstReason() {
        badRod(Edges::few, -1, 0, 1, 0);
        badRod(Edges::few, 5, 1, 0, 0);
        badRod(Edges::few, 3, 0, 1, 0);
        badRod(Edges::few, 3, 0, 1, 1001);
        badRod(Edges::few, 4, 0, 1, 1);
        badRod(Edges::few, 0, 0, 1, -1);
        badRod(Edges::full, 5, 0, 1, 0);
        badRod(Edges::full, 0, 0, 6, 0);
        badRod(Edges::full, 0, -1, 0, 0);
        badRod(Edges::full, 0, 3, 3, 0);
        badRod(Edges::full, 3, 0, 1, 1001);
    }

    private static void refusedRodsTakeNoNumber() {
        RodBench x = new RodBench();
        Edges.sixPins(x);
        for (int b = 1; b < 6; b++) {
            Due.is("BAD", -2, x.rod(0, b, b, 0));
            Due.is("the next number", b - 1, x.rod(0, 0, b, 0));
            Due.is("STATE", -3, x.rod(4, b, 0, 0));
        }
    }

    /** 'RODS of KINDS 0 to 2 are IN; SPARE ones and GIFTS are OUT as they come'. */
    private static void inOrOutAsTheyCome() {
        for (int kind = 0; kind < 5; kind++) {
            RodBench x = new RodBench();
            Edges.sixPins(x);
            x.rod(kind, 4, 5, kind == 3 ? 1000 : 0);
            Due.is("kind " + kind + ": rodTold(0, 4)", kind < 3 ? 1 : 0, x.rodTold(0, 4));
            Due.is("kind " + kind + ": count(2)", 1, x.count(2));
            Due.is("kind " + kind + ": count(3)", kind < 3 ? 1 : 0, x.count(3));
        }
    }

    private static void putOutsideIsBad() {
        for (int far : Edges.outside(0, 4)) {
            Telling.refused("put(" + far + ", true)", -2, Edges::few, x -> x.put(far, true));
            Telling.refused("put(" + far + ", false)", -2, Edges::few, x -> x.put(far, false));
        }
        for (int far : Edges.outside(0, 14)) {
            Telling.refused("full: put(" + far + ", true)", -2, Edges::full, x -> x.put(far, true));
        }
        RodBench x = new RodBench();
        Edges.full(x);
        Due.is("full, the last: put(14, true)", 1, x.put(14, true));
    }

    /** 'BAD: also another KIND': whether it would be a change or not. */
    private static void putOfAnotherKindIsBad() {
        for (int rod = 0; rod < 3; rod++) {
            int one = rod;
            Telling.refused("put(" + rod + ", true)", -2, Edges::few, x -> x.put(one, true));
            Telling.refused("put(" + rod + ", false)", -2, Edges::few, x -> x.put(one, false));
        }
    }

    private static void putTellsWhetherItWasOtherwise() {
        for (int rod = 3; rod < 5; rod++) {
            RodBench x = new RodBench();
            Edges.few(x);
            int was = rod == 4 ? 1 : 0;
            for (int now : new int[] {0, 1, 1, 0, 0, 1}) {
                Due.is("put(" + rod + ", " + (now == 1) + ")", now == was ? 0 : 1, x.put(rod, now == 1));
                Due.is("rodTold(" + rod + ", 4)", now, x.rodTold(rod, 4));
                Due.is("count(3)", 3 + now + (rod == 3 ? 1 : 0), x.count(3));
                was = now;
            }
        }
        Telling.changesNothing("out already: put(3, false)", 0, Edges::few, x -> x.put(3, false), true);
        Telling.changesNothing("in already: put(4, true)", 0, Edges::few, x -> x.put(4, true), true);
    }

    private static void countOutsideIsBad() {
        for (int far : Edges.outside(0, 9)) {
            Telling.refused("count(" + far + ")", -2, Edges::few, x -> x.count(far));
            Telling.refused("empty: count(" + far + ")", -2, Edges::empty, x -> x.count(far));
        }
    }

    private static void counts(String frame, RodBench x, int... due) {
        for (int what = 0; what < due.length; what++) {
            Due.is(frame + ": count(" + what + ")", due[what], x.count(what));
        }
    }

    /** No pins; pins without rods; rods that are all out; all pins held and no rod. */
    private static void countsWithNothingThere() {
        RodBench x = new RodBench();
        counts("no pins", x, 0, 0, 0, 0, 0, 0, 0, 0, 0, 0);
        x.pin(5, 5);
        counts("one pin", x, 1, 1, 0, 0, 2, 0, 0, 0, 0, 0);
        x.hold(0, true);
        counts("one pin, held", x, 1, 0, 0, 0, 0, 0, 0, 0, 0, 0);
        x.hold(0, false);
        x.pin(0, 5);
        counts("two pins", x, 2, 2, 0, 0, 4, 0, 0, 0, 0, 0);
        x.rod(3, 0, 1, 1);
        counts("a rod that is out", x, 2, 2, 1, 0, 4, 0, 0, 0, 0, 0);
        x.put(0, true);
        counts("it is in", x, 2, 2, 1, 1, 3, 0, 1, 1, 0, 1);
        x.hold(0, true);
        x.hold(1, true);
        counts("both its pins are held", x, 2, 0, 1, 1, 0, 1, 0, 1, 0, 0);
    }

    private static void countsWithAllHeldAndFull() {
        RodBench x = new RodBench();
        Edges.sixPins(x);
        counts("six pins", x, 6, 6, 0, 0, 12, 0, 0, 0, 0, 0);
        for (int a = 0; a < 6; a++) {
            for (int b = a + 1; b < 6; b++) {
                x.rod(0, a, b, 0);
            }
        }
        counts("fifteen rods", x, 6, 6, 15, 15, 3, 6, 9, 1, 6, 0);
        int[][] due = {{6, 5, 15, 15, 1, 6, 9, 1, 6, 0}, {6, 4, 15, 15, 0, 7, 8, 1, 6, 0},
            {6, 3, 15, 15, 0, 9, 6, 1, 6, 0}, {6, 2, 15, 15, 0, 11, 4, 1, 6, 0}, {6, 1, 15, 15, 0, 13, 2, 1, 6, 0},
            {6, 0, 15, 15, 0, 15, 0, 1, 6, 0}};
        for (int pin = 0; pin < 6; pin++) {
            x.hold(pin, true);
            counts("fifteen rods, " + (pin + 1) + " held", x, due[pin]);
        }
    }

    private static void rodToldOutsideIsBad() {
        for (int far : Edges.outside(0, 4)) {
            for (int what = 0; what < 7; what++) {
                int asked = what;
                Telling.refused("rodTold(" + far + ", " + what + ")", -2, Edges::few, x -> x.rodTold(far, asked));
            }
        }
        for (int far : Edges.outside(0, 6)) {
            Telling.refused("rodTold(0, " + far + ")", -2, Edges::few, x -> x.rodTold(0, far));
            Telling.refused("out: rodTold(3, " + far + ")", -2, Edges::few, x -> x.rodTold(3, far));
        }
        for (int far : Edges.outside(0, 14)) {
            Telling.refused("full: rodTold(" + far + ", 0)", -2, Edges::full, x -> x.rodTold(far, 0));
        }
    }

    private static void pricesToldAtTheirEdges() {
        RodBench x = new RodBench();
        Edges.sixPins(x);
        x.rod(3, 0, 1, 1);
        x.rod(3, 0, 2, 1000);
        x.rod(4, 0, 3, 0);
        x.rod(0, 0, 4, 0);
        int[] due = {1, 1000, 0, 0};
        for (int rod = 0; rod < 4; rod++) {
            Due.is("rodTold(" + rod + ", 3)", due[rod], x.rodTold(rod, 3));
        }
        x.put(1, true);
        Due.is("in: rodTold(1, 3)", 1000, x.rodTold(1, 3));
    }

    /** 'whether it is NEEDED (OUT: 0)'. */
    private static void neededOnlyIfIn() {
        RodBench x = new RodBench();
        Edges.sixPins(x);
        x.rod(3, 0, 1, 1);
        Due.is("out: rodTold(0, 5)", 0, x.rodTold(0, 5));
        Due.is("out: count(9)", 0, x.count(9));
        x.put(0, true);
        Due.is("in: rodTold(0, 5)", 1, x.rodTold(0, 5));
        Due.is("in: count(9)", 1, x.count(9));
        x.put(0, false);
        Due.is("out again: rodTold(0, 5)", 0, x.rodTold(0, 5));
    }

    /** With no stress each rod that is in is needed; with a stress in all of them none is. */
    private static void neededFromAllToNone() {
        RodBench x = new RodBench();
        x.pin(0, 0);
        x.pin(5, 0);
        x.pin(5, 5);
        x.pin(0, 5);
        int[][] ends = {{0, 1}, {1, 2}, {2, 3}, {3, 0}, {0, 2}, {1, 3}};
        for (int rod = 0; rod < 6; rod++) {
            x.rod(0, ends[rod][0], ends[rod][1], 0);
            int due = rod == 5 ? 0 : rod + 1;
            Due.is("count(9)", due, x.count(9));
            Due.is("rodTold(" + rod + ", 5)", due > 0 ? 1 : 0, x.rodTold(rod, 5));
            Due.is("rodTold(0, 5)", due > 0 ? 1 : 0, x.rodTold(0, 5));
        }
    }

    /** 'the least BODY that has both its PINS (NONE)': also of a rod that is out. */
    private static void bodyOfARodOrNone() {
        RodBench x = new RodBench();
        Edges.sixPins(x);
        x.rod(3, 0, 1, 1);
        Due.is("no body: rodTold(0, 6)", -1, x.rodTold(0, 6));
        x.rod(0, 1, 2, 0);
        Due.is("one of its pins in a body: rodTold(0, 6)", -1, x.rodTold(0, 6));
        x.rod(0, 0, 2, 0);
        Due.is("each in a body: rodTold(0, 6)", -1, x.rodTold(0, 6));
        Due.is("the body of 0 and 2: rodTold(2, 6)", 0, x.rodTold(2, 6));
        Due.is("the body of 1 and 2: rodTold(1, 6)", 1, x.rodTold(1, 6));
        x.rod(0, 0, 3, 0);
        x.rod(0, 1, 3, 0);
        Due.is("a round of four: rodTold(0, 6)", -1, x.rodTold(0, 6));
        x.rod(0, 3, 2, 0);
        Due.is("out, both in a body: rodTold(0, 6)", 0, x.rodTold(0, 6));
        x.put(0, true);
        Due.is("in: rodTold(0, 6)", 0, x.rodTold(0, 6));
        RodBench y = new RodBench();
        Edges.sixPins(y);
        y.rod(4, 4, 5, 0);
        y.put(0, true);
        Due.is("alone in: rodTold(0, 6)", 0, y.rodTold(0, 6));
        y.put(0, false);
        Due.is("alone, out again: rodTold(0, 6)", -1, y.rodTold(0, 6));
    }

    private static void rodsMayJoinHeldPins() {
        RodBench x = new RodBench();
        Edges.sixPins(x);
        x.hold(0, true);
        x.hold(5, true);
        Due.is("between held ones", 0, x.rod(0, 0, 5, 0));
        Due.is("from a held one", 1, x.rod(2, 5, 3, 0));
    }
}
