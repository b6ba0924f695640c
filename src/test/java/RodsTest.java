/** Promises 5, 6, 7 and 9: rods, putting them in and out, counts and what is told of a rod. */
public final class RodsTest {
    private RodsTest() {
    }

    public static void main(String[] args) {
        rod();
        rodPrices();
        rodBadComesBeforeState();
        allFifteen();
        put();
        putChangesTheFrame();
        count();
        countWithHeldPins();
        rodTold();
        neededTold();
        Due.end();
    }

    /** Four pins at the corners of a square of side 4, in turn. */
    private static RodBench corners() {
        RodBench x = new RodBench();
        x.pin(0, 0);
        x.pin(4, 0);
        x.pin(4, 4);
        x.pin(0, 4);
        return x;
    }

    private static void rod() {
        RodBench x = corners();
        Due.is("rod(0, 0, 1, 0)", 0, x.rod(0, 0, 1, 0));
        Due.is("rod(1, 1, 2, 0)", 1, x.rod(1, 1, 2, 0));
        Due.is("rod(2, 2, 3, 0)", 2, x.rod(2, 2, 3, 0));
        Due.is("rod(3, 3, 0, 1000)", 3, x.rod(3, 3, 0, 1000));
        Due.is("rod(4, 0, 2, 0)", 4, x.rod(4, 0, 2, 0));
        Due.is("the same two", -3, x.rod(0, 0, 1, 0));
        Due.is("the same two, turned", -3, x.rod(1, 1, 0, 0));
        Due.is("the same two as one that is out", -3, x.rod(0, 3, 0, 0));
        Due.is("rod(-1, 1, 3, 0)", -2, x.rod(-1, 1, 3, 0));
        Due.is("rod(5, 1, 3, 0)", -2, x.rod(5, 1, 3, 0));
        Due.is("rod(0, 1, 1, 0)", -2, x.rod(0, 1, 1, 0));
        Due.is("rod(0, -1, 3, 0)", -2, x.rod(0, -1, 3, 0));
        Due.is("rod(0, 1, -1, 0)", -2, x.rod(0, 1, -1, 0));
        Due.is("rod(0, 4, 3, 0)", -2, x.rod(0, 4, 3, 0));
        Due.is("rod(0, 1, 4, 0)", -2, x.rod(0, 1, 4, 0));
        Due.is("rod(0, MAX, MIN, 0)", -2, x.rod(0, Integer.MAX_VALUE, Integer.MIN_VALUE, 0));
        Due.is("count(2)", 5, x.count(2));
        Due.is("count(3)", 3, x.count(3));
    }

    private static void rodPrices() {
        RodBench x = corners();
        for (int kind = 0; kind <= 4; kind++) {
            if (kind != 3) {
                Due.is("a price of kind " + kind, -2, x.rod(kind, 0, 1, 1));
                Due.is("a price below 0 of kind " + kind, -2, x.rod(kind, 0, 1, -1));
            }
        }
        Due.is("rod(3, 0, 1, 0)", -2, x.rod(3, 0, 1, 0));
        Due.is("rod(3, 0, 1, -1)", -2, x.rod(3, 0, 1, -1));
        Due.is("rod(3, 0, 1, 1001)", -2, x.rod(3, 0, 1, 1001));
        Due.is("count(2)", 0, x.count(2));
        Due.is("rod(3, 0, 1, 1)", 0, x.rod(3, 0, 1, 1));
        Due.is("rod(3, 1, 2, 1000)", 1, x.rod(3, 1, 2, 1000));
    }

    private static void rodBadComesBeforeState() {
        RodBench x = corners();
        x.rod(0, 0, 1, 0);
        Due.is("rod(0, 0, 1, 7)", -2, x.rod(0, 0, 1, 7));
        Due.is("rod(3, 1, 0, 0)", -2, x.rod(3, 1, 0, 0));
        Due.is("rod(9, 1, 0, 0)", -2, x.rod(9, 1, 0, 0));
    }

    private static void allFifteen() {
        RodBench x = corners();
        x.pin(1, 2);
        x.pin(3, 5);
        int next = 0;
        for (int a = 0; a < 6; a++) {
            for (int b = a + 1; b < 6; b++) {
                Due.is("rod(0, " + a + ", " + b + ", 0)", next, x.rod(0, a, b, 0));
                next++;
            }
        }
        Due.is("count(2)", 15, x.count(2));
        Due.is("count(3)", 15, x.count(3));
        Due.is("count(4)", 3, x.count(4));
        Due.is("count(5)", 6, x.count(5));
        Due.is("count(6)", 9, x.count(6));
        Due.is("count(7)", 1, x.count(7));
        Due.is("count(8)", 6, x.count(8));
        Due.is("count(9)", 0, x.count(9));
        Due.is("one more", -3, x.rod(0, 5, 0, 0));
    }

    private static void put() {
        RodBench x = corners();
        x.rod(0, 0, 1, 0);
        x.rod(1, 1, 2, 0);
        x.rod(2, 2, 3, 0);
        x.rod(3, 3, 0, 9);
        x.rod(4, 0, 2, 0);
        for (int rod = 0; rod < 3; rod++) {
            Due.is("put(" + rod + ", false)", -2, x.put(rod, false));
            Due.is("put(" + rod + ", true)", -2, x.put(rod, true));
            Due.is("rodTold(" + rod + ", 4)", 1, x.rodTold(rod, 4));
        }
        for (int rod = 3; rod < 5; rod++) {
            Due.is("rodTold(" + rod + ", 4)", 0, x.rodTold(rod, 4));
            Due.is("put(" + rod + ", false)", 0, x.put(rod, false));
            Due.is("put(" + rod + ", true)", 1, x.put(rod, true));
            Due.is("put(" + rod + ", true) again", 0, x.put(rod, true));
            Due.is("rodTold(" + rod + ", 4)", 1, x.rodTold(rod, 4));
            Due.is("put(" + rod + ", false)", 1, x.put(rod, false));
            Due.is("rodTold(" + rod + ", 4)", 0, x.rodTold(rod, 4));
        }
        Due.is("put(-1, true)", -2, x.put(-1, true));
        Due.is("put(5, true)", -2, x.put(5, true));
    }

    private static void putChangesTheFrame() {
        RodBench x = corners();
        x.rod(0, 0, 1, 0);
        x.rod(0, 1, 2, 0);
        x.rod(0, 2, 3, 0);
        x.rod(0, 3, 0, 0);
        x.rod(3, 0, 2, 4);
        Due.is("out: stiff()", 0, x.stiff());
        Due.is("out: could()", 0, x.could());
        x.put(4, true);
        Due.is("in: stiff()", 1, x.stiff());
        Due.is("in: could()", 1, x.could());
        Due.is("in: count(3)", 5, x.count(3));
        x.put(4, false);
        Due.is("out again: stiff()", 0, x.stiff());
        Due.is("out again: count(3)", 4, x.count(3));
    }

    private static void count() {
        RodBench x = corners();
        x.rod(0, 0, 1, 0);
        x.rod(1, 1, 2, 0);
        x.rod(2, 2, 3, 0);
        x.rod(3, 3, 0, 9);
        int[] due = {4, 4, 4, 3, 5, 0, 3, 3, 0, 3};
        for (int what = 0; what < due.length; what++) {
            Due.is("count(" + what + ")", due[what], x.count(what));
        }
        Due.is("count(-1)", -2, x.count(-1));
        Due.is("count(10)", -2, x.count(10));
        Due.is("count(MIN)", -2, x.count(Integer.MIN_VALUE));
        Due.is("count(MAX)", -2, x.count(Integer.MAX_VALUE));
    }

    private static void countWithHeldPins() {
        RodBench x = corners();
        x.hold(0, true);
        x.hold(1, true);
        x.rod(0, 0, 1, 0);
        x.rod(0, 1, 2, 0);
        // the rod between held pins is a stress of its own, and by counts both are as if free
        int[] due = {4, 2, 2, 2, 3, 1, 1, 2, 0, 1};
        for (int what = 0; what < due.length; what++) {
            Due.is("held: count(" + what + ")", due[what], x.count(what));
        }
        for (int pin = 0; pin < 4; pin++) {
            x.hold(pin, true);
        }
        int[] dueAll = {4, 0, 2, 2, 0, 2, 0, 2, 0, 0};
        for (int what = 0; what < dueAll.length; what++) {
            Due.is("all held: count(" + what + ")", dueAll[what], x.count(what));
        }
    }

    private static void rodTold() {
        RodBench x = corners();
        x.rod(0, 1, 0, 0);
        x.rod(1, 1, 2, 0);
        x.rod(2, 3, 2, 0);
        x.rod(3, 3, 0, 123);
        x.rod(4, 0, 2, 0);
        int[][] due = {{0, 1, 0, 0, 1, 1, 0}, {1, 1, 2, 0, 1, 1, 1}, {2, 3, 2, 0, 1, 1, 2},
            {3, 3, 0, 123, 0, 0, -1}, {4, 0, 2, 0, 0, 0, -1}};
        for (int rod = 0; rod < due.length; rod++) {
            for (int what = 0; what < 7; what++) {
                Due.is("rodTold(" + rod + ", " + what + ")", due[rod][what], x.rodTold(rod, what));
            }
        }
        x.put(4, true);
        // 0-1-2 is one body now, the least, and 2-3 the other
        Due.is("rodTold(0, 6)", 0, x.rodTold(0, 6));
        Due.is("rodTold(1, 6)", 0, x.rodTold(1, 6));
        Due.is("rodTold(4, 6)", 0, x.rodTold(4, 6));
        Due.is("rodTold(2, 6)", 1, x.rodTold(2, 6));
        Due.is("rodTold(3, 6)", -1, x.rodTold(3, 6));
        Due.is("rodTold(-1, 0)", -2, x.rodTold(-1, 0));
        Due.is("rodTold(5, 0)", -2, x.rodTold(5, 0));
        Due.is("rodTold(0, -1)", -2, x.rodTold(0, -1));
        Due.is("rodTold(0, 7)", -2, x.rodTold(0, 7));
    }

    /** Braced twice, no rod of the square is needed; a rod hung on is; one that is out never is. */
    private static void neededTold() {
        RodBench x = corners();
        x.pin(5, 5);
        x.rod(0, 0, 1, 0);
        x.rod(0, 1, 2, 0);
        x.rod(0, 2, 3, 0);
        x.rod(0, 3, 0, 0);
        x.rod(0, 0, 2, 0);
        x.rod(3, 1, 3, 5);
        x.rod(0, 2, 4, 0);
        Due.is("braced once: count(9)", 6, x.count(9));
        Due.is("out: rodTold(5, 5)", 0, x.rodTold(5, 5));
        Due.is("out, but in a body: rodTold(5, 6)", 0, x.rodTold(5, 6));
        x.put(5, true);
        Due.is("braced twice: count(9)", 1, x.count(9));
        for (int rod = 0; rod < 6; rod++) {
            Due.is("braced twice: rodTold(" + rod + ", 5)", 0, x.rodTold(rod, 5));
        }
        Due.is("hung on: rodTold(6, 5)", 1, x.rodTold(6, 5));
    }
}
