/** Promises 10 to 13 and 15 to 17: motions, stresses, stiff, tight, carry, force and gives. */
public final class BalanceTest {
    private static final long NO = RodBench.NO;

    private BalanceTest() {
    }

    public static void main(String[] args) {
        motionOfOneRod();
        motionWithoutDivisor();
        motionWithHeldPins();
        motionRefused();
        stressOfSquare();
        stressNumbers();
        stressBetweenHeldPins();
        stressRefused();
        stiffOfFewPins();
        stiffWithHeldPins();
        stiffOrNot();
        tightCables();
        tightWithoutCables();
        tightNone();
        carryAndGives();
        forceFractions();
        forceIsNoughtInLooseColumns();
        forcesAtSixFreePins();
        forceRefused();
        Due.end();
    }

    private static void motions(String frame, RodBench x, long[][] due) {
        Due.is(frame + ": count(4)", due.length, x.count(4));
        for (int i = 0; i < due.length; i++) {
            for (int column = 0; column < due[i].length; column++) {
                Due.is(frame + ": motion(" + i + ", " + column / 2 + ", " + column % 2 + ")", due[i][column],
                    x.motion(i, column / 2, column % 2));
            }
        }
    }

    private static void stresses(String frame, RodBench x, long[][] due) {
        Due.is(frame + ": count(5)", due.length, x.count(5));
        for (int i = 0; i < due.length; i++) {
            for (int rod = 0; rod < due[i].length; rod++) {
                Due.is(frame + ": stress(" + i + ", " + rod + ")", due[i][rod], x.stress(i, rod));
            }
        }
    }

    private static void motionOfOneRod() {
        RodBench x = new RodBench();
        x.pin(2, 3);
        motions("one pin", x, new long[][] {{1, 0}, {0, 1}});
        x.pin(4, 4);
        x.rod(0, 0, 1, 0);
        // -2 (x0 - x1) - (y0 - y1) = 0: x0 is made up of the others
        motions("one rod", x, new long[][] {{-1, 2, 0, 0}, {1, 0, 1, 0}, {1, 0, 0, 2}});
    }

    /** x0 = -y0 4/6 and so on: the row is taken to the least whole numbers, above 0 in its column. */
    private static void motionWithoutDivisor() {
        RodBench x = new RodBench();
        x.pin(0, 0);
        x.pin(4, 2);
        x.rod(0, 1, 0, 0);
        motions("divisor", x, new long[][] {{-1, 2, 0, 0}, {1, 0, 1, 0}, {1, 0, 0, 2}});
        x.move(1, 2, 3);
        motions("no divisor", x, new long[][] {{-3, 2, 0, 0}, {1, 0, 1, 0}, {3, 0, 0, 2}});
        x.move(1, 0, 3);
        motions("upright", x, new long[][] {{1, 0, 0, 0}, {0, 0, 1, 0}, {0, 1, 0, 1}});
    }

    private static void motionWithHeldPins() {
        RodBench x = new RodBench();
        x.pin(0, 0);
        x.pin(1, 2);
        x.pin(4, 4);
        x.hold(0, true);
        x.rod(0, 0, 1, 0);
        motions("held", x, new long[][] {{0, 0, -2, 1, 0, 0}, {0, 0, 0, 0, 1, 0}, {0, 0, 0, 0, 0, 1}});
        x.rod(3, 1, 2, 6);
        x.put(1, true);
        // x1 + 2 y1 = 0 and 3 x1 + 2 y1 = 3 x2 + 2 y2
        motions("held, two rods", x, new long[][] {{0, 0, 6, -3, 4, 0}, {0, 0, 2, -1, 0, 2}});
        x.hold(2, true);
        motions("two held", x, new long[][] {});
        x.put(1, false);
        motions("two held, one rod", x, new long[][] {{0, 0, -2, 1, 0, 0}});
    }

    private static void motionRefused() {
        RodBench x = new RodBench();
        x.pin(0, 0);
        x.pin(1, 2);
        Due.is("motion(4, 0, 0)", NO, x.motion(4, 0, 0));
        Due.is("motion(-1, 0, 0)", NO, x.motion(-1, 0, 0));
        Due.is("motion(0, 2, 0)", NO, x.motion(0, 2, 0));
        Due.is("motion(0, -1, 0)", NO, x.motion(0, -1, 0));
        Due.is("motion(0, 0, 2)", NO, x.motion(0, 0, 2));
        Due.is("motion(0, 0, -1)", NO, x.motion(0, 0, -1));
        Due.is("motion(MIN, MAX, MIN)", NO, x.motion(Integer.MIN_VALUE, Integer.MAX_VALUE, Integer.MIN_VALUE));
        Due.is("motion(3, 1, 1)", 1, x.motion(3, 1, 1));
        x.hold(0, true);
        Due.is("held: motion(2, 0, 0)", NO, x.motion(2, 0, 0));
        Due.is("held: motion(1, 0, 0)", 0, x.motion(1, 0, 0));
    }

    private static RodBench corners(int wide, int high) {
        RodBench x = new RodBench();
        x.pin(0, 0);
        x.pin(wide, 0);
        x.pin(wide, high);
        x.pin(0, high);
        return x;
    }

    private static void stressOfSquare() {
        RodBench x = corners(3, 3);
        x.rod(0, 0, 2, 0);
        x.rod(0, 1, 3, 0);
        x.rod(0, 0, 1, 0);
        x.rod(0, 1, 2, 0);
        x.rod(0, 2, 3, 0);
        stresses("four sides less one", x, new long[][] {});
        x.rod(3, 3, 0, 8);
        stresses("a side is out", x, new long[][] {});
        x.put(5, true);
        stresses("square", x, new long[][] {{-1, -1, 1, 1, 1, 1}});
    }

    /** Three pins on a line. At pin 1: 2 s0 - s2 = 0; at pin 0: -2 s0 - 3 s1 = 0. */
    private static void stressNumbers() {
        RodBench x = new RodBench();
        x.pin(0, 1);
        x.pin(2, 1);
        x.pin(3, 1);
        x.rod(0, 0, 1, 0);
        x.rod(3, 0, 2, 1);
        x.rod(0, 1, 2, 0);
        stresses("no long rod", x, new long[][] {});
        x.put(1, true);
        stresses("line", x, new long[][] {{3, -2, 6}});
        x.pin(3, 4);
        x.rod(3, 0, 3, 1);
        stresses("one is out", x, new long[][] {{3, -2, 6, 0}});
    }

    private static void stressBetweenHeldPins() {
        RodBench x = corners(4, 4);
        x.hold(0, true);
        x.hold(2, true);
        x.rod(0, 0, 1, 0);
        x.rod(0, 0, 2, 0);
        x.rod(0, 1, 2, 0);
        stresses("a rod between held ones", x, new long[][] {{0, 1, 0}});
        Due.is("it is not needed", 0, x.rodTold(1, 5));
        Due.is("the others are", 2, x.count(9));
    }

    private static void stressRefused() {
        RodBench x = corners(4, 4);
        x.hold(0, true);
        x.hold(1, true);
        x.rod(0, 0, 1, 0);
        x.rod(4, 0, 2, 0);
        Due.is("stress(0, 0)", 1, x.stress(0, 0));
        Due.is("stress(0, 1), out", 0, x.stress(0, 1));
        Due.is("stress(1, 0)", NO, x.stress(1, 0));
        Due.is("stress(1, 1), out", NO, x.stress(1, 1));
        Due.is("stress(-1, 0)", NO, x.stress(-1, 0));
        Due.is("stress(0, 2)", NO, x.stress(0, 2));
        Due.is("stress(0, -1)", NO, x.stress(0, -1));
        Due.is("stress(MAX, MIN)", NO, x.stress(Integer.MAX_VALUE, Integer.MIN_VALUE));
    }

    private static void stiffOfFewPins() {
        RodBench x = new RodBench();
        Due.is("no pin: stiff()", 1, x.stiff());
        x.pin(1, 1);
        Due.is("one pin: stiff()", 1, x.stiff());
        x.hold(0, true);
        Due.is("one held pin: stiff()", 1, x.stiff());
        x.hold(0, false);
        x.pin(2, 1);
        Due.is("two pins: stiff()", 0, x.stiff());
        x.rod(0, 0, 1, 0);
        Due.is("two pins with a rod: stiff()", 1, x.stiff());
    }

    private static void stiffWithHeldPins() {
        RodBench x = new RodBench();
        x.pin(1, 1);
        x.pin(2, 1);
        x.hold(0, true);
        Due.is("one of two held, no rod: stiff()", 0, x.stiff());
        x.rod(0, 0, 1, 0);
        Due.is("one of two held: it turns about it: stiff()", 1, x.stiff());
        x.pin(2, 2);
        x.hold(1, true);
        Due.is("two held and a loose one: stiff()", 0, x.stiff());
        x.rod(0, 1, 2, 0);
        Due.is("two held, one rod: stiff()", 0, x.stiff());
        x.rod(0, 0, 2, 0);
        Due.is("two held, two rods: stiff()", 1, x.stiff());
        x.hold(2, true);
        Due.is("all held: stiff()", 1, x.stiff());
    }

    private static void stiffOrNot() {
        RodBench x = corners(5, 5);
        x.pin(2, 2);
        x.pin(3, 3);
        for (int i = 0; i < 4; i++) {
            x.rod(0, i, (i + 1) % 4, 0);
        }
        for (int i = 0; i < 4; i++) {
            x.rod(0, i, 4, 0);
        }
        Due.is("a loose pin: stiff()", 0, x.stiff());
        x.rod(0, 5, 2, 0);
        Due.is("one rod to it: stiff()", 0, x.stiff());
        x.rod(0, 5, 4, 0);
        Due.is("two rods on one line: stiff()", 0, x.stiff());
        Due.is("but by counts: could()", 1, x.could());
        x.move(5, 3, 4);
        Due.is("two rods on two lines: stiff()", 1, x.stiff());
    }

    private static RodBench cables(int sides, int across) {
        RodBench x = corners(4, 4);
        for (int i = 0; i < 4; i++) {
            x.rod(sides, i, (i + 1) % 4, 0);
        }
        x.rod(across, 0, 2, 0);
        x.rod(across, 1, 3, 0);
        return x;
    }

    private static void tightCables() {
        Due.is("ropes about props", 1, cables(1, 2).tight());
        Due.is("props about ropes", 1, cables(2, 1).tight());
        Due.is("ropes alone", 0, cables(1, 1).tight());
        Due.is("props alone", 0, cables(2, 2).tight());
        Due.is("ropes about rods", 1, cables(1, 0).tight());
        Due.is("rods about props", 1, cables(0, 2).tight());
        RodBench x = cables(1, 2);
        x.pin(5, 5);
        x.rod(1, 4, 2, 0);
        Due.is("a rope with 0 in the stress", 0, x.tight());
        x = cables(1, 2);
        x.pin(5, 5);
        x.rod(2, 4, 2, 0);
        Due.is("a prop with 0 in the stress", 0, x.tight());
        x = cables(1, 2);
        x.pin(5, 5);
        x.rod(0, 4, 2, 0);
        Due.is("a rod with 0 in the stress", 1, x.tight());
        x = corners(4, 4);
        for (int i = 0; i < 4; i++) {
            x.rod(i == 0 ? 2 : 1, i, (i + 1) % 4, 0);
        }
        x.rod(0, 0, 2, 0);
        x.rod(0, 1, 3, 0);
        Due.is("one prop among the ropes", 0, x.tight());
    }

    private static void tightWithoutCables() {
        Due.is("rods alone", 1, cables(0, 0).tight());
        RodBench x = corners(4, 4);
        for (int i = 0; i < 4; i++) {
            x.rod(1, i, (i + 1) % 4, 0);
        }
        x.rod(4, 0, 2, 0);
        x.rod(3, 1, 3, 1);
        Due.is("a gift out: tight()", -1, x.tight());
        x.put(4, true);
        x.put(5, true);
        Due.is("a gift and a spare in: tight()", 1, x.tight());
    }

    private static void tightNone() {
        RodBench x = corners(4, 4);
        Due.is("no stress: tight()", -1, x.tight());
        x = cables(1, 2);
        x.pin(2, 3);
        for (int i = 0; i < 3; i++) {
            x.rod(0, 4, i, 0);
        }
        Due.is("two stresses: count(5)", 2, x.count(5));
        Due.is("two stresses: tight()", -1, x.tight());
    }

    private static void carryAndGives() {
        RodBench x = corners(4, 4);
        Due.is("no load: carry()", 1, x.carry());
        Due.is("no load: gives()", -1, x.gives());
        x.load(2, 0, 5);
        Due.is("no rod: carry()", 0, x.carry());
        Due.is("no rod: gives()", 5, x.gives());
        x.load(2, 5, 0);
        Due.is("along x: gives()", 4, x.gives());
        x.load(2, 0, 0);
        Due.is("load off: carry()", 1, x.carry());
        x.rod(0, 0, 2, 0);
        x.load(0, -3, -3);
        Due.is("not in balance: carry()", 0, x.carry());
        x.load(2, 3, 3);
        Due.is("along the rod: carry()", 1, x.carry());
        Due.is("along the rod: gives()", -1, x.gives());
        Due.is("pulled: force(0, 0)", 3, x.force(0, 0));
        Due.is("pulled: force(0, 1)", 4, x.force(0, 1));
        x.load(0, 3, -3);
        x.load(2, -3, 3);
        Due.is("across the rod: carry()", 0, x.carry());
        Due.is("across the rod: gives()", 0, x.gives());
    }

    private static void forceFractions() {
        RodBench x = new RodBench();
        x.pin(0, 0);
        x.pin(5, 0);
        x.pin(2, 3);
        x.hold(0, true);
        x.hold(1, true);
        x.rod(0, 0, 2, 0);
        x.rod(0, 2, 1, 0);
        x.rod(4, 0, 1, 0);
        x.load(2, 1, -7);
        // 2 f0 - 3 f1 = 1 and 3 f0 + 3 f1 = -7
        long[][] due = {{-6, 5}, {-17, 15}, {0, 1}};
        for (int rod = 0; rod < 3; rod++) {
            Due.is("force(" + rod + ", 0)", due[rod][0], x.force(rod, 0));
            Due.is("force(" + rod + ", 1)", due[rod][1], x.force(rod, 1));
        }
        x.load(2, 0, 0);
        Due.is("no load: force(0, 0)", 0, x.force(0, 0));
        Due.is("no load: force(0, 1)", 1, x.force(0, 1));
        x.load(2, -20, 0);
        Due.is("whole: force(0, 0)", -4, x.force(0, 0));
        Due.is("whole: force(0, 1)", 1, x.force(0, 1));
        Due.is("whole: force(1, 0)", 4, x.force(1, 0));
    }

    private static void forceIsNoughtInLooseColumns() {
        RodBench x = new RodBench();
        x.pin(0, 2);
        x.pin(1, 2);
        x.pin(4, 2);
        x.hold(0, true);
        x.hold(2, true);
        x.rod(0, 0, 1, 0);
        x.rod(0, 0, 2, 0);
        x.rod(0, 2, 1, 0);
        x.load(1, -5, 0);
        Due.is("count(5)", 2, x.count(5));
        Due.is("the first takes all: force(0, 0)", -5, x.force(0, 0));
        Due.is("force(0, 1)", 1, x.force(0, 1));
        Due.is("between held ones: force(1, 0)", 0, x.force(1, 0));
        Due.is("between held ones: force(1, 1)", 1, x.force(1, 1));
        Due.is("loose: force(2, 0)", 0, x.force(2, 0));
        Due.is("loose: force(2, 1)", 1, x.force(2, 1));
    }

    /** A fan about pin 0: each rod is pulled along itself, and pin 0 holds against all. */
    private static void forcesAtSixFreePins() {
        RodBench x = new RodBench();
        int[][] places = {{2, 2}, {5, 3}, {3, 5}, {0, 4}, {1, 0}, {4, 1}};
        for (int[] place : places) {
            x.pin(place[0], place[1]);
        }
        int sumX = 0;
        int sumY = 0;
        for (int pin = 1; pin < 6; pin++) {
            x.rod(0, 0, pin, 0);
            int forceX = pin * (places[pin][0] - 2);
            int forceY = pin * (places[pin][1] - 2);
            x.load(pin, forceX, forceY);
            sumX += forceX;
            sumY += forceY;
            Due.is("a fan of " + pin + ", not in balance: carry()", 0, x.carry());
            x.load(0, -sumX, -sumY);
            Due.is("a fan of " + pin + ": carry()", 1, x.carry());
            Due.is("a fan of " + pin + ": gives()", -1, x.gives());
        }
        for (int rod = 0; rod < 5; rod++) {
            Due.is("a fan: force(" + rod + ", 0)", rod + 1, x.force(rod, 0));
            Due.is("a fan: force(" + rod + ", 1)", 1, x.force(rod, 1));
        }
    }

    private static void forceRefused() {
        RodBench x = corners(4, 4);
        x.rod(0, 0, 1, 0);
        x.rod(4, 0, 2, 0);
        Due.is("force(0, 0)", 0, x.force(0, 0));
        Due.is("out: force(1, 0)", 0, x.force(1, 0));
        Due.is("out: force(1, 1)", 1, x.force(1, 1));
        Due.is("force(2, 0)", NO, x.force(2, 0));
        Due.is("force(-1, 0)", NO, x.force(-1, 0));
        Due.is("force(0, 2)", NO, x.force(0, 2));
        Due.is("force(0, -1)", NO, x.force(0, -1));
        x.load(3, 1, 0);
        Due.is("there are none: force(0, 0)", NO, x.force(0, 0));
        Due.is("there are none: force(0, 1)", NO, x.force(0, 1));
        Due.is("there are none: force(1, 0)", NO, x.force(1, 0));
    }
}
