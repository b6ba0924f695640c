/**
 * The sentences about motions, stresses and forces that name an edge, one test each: promises 10 to
 * 13 and 15 to 17, and sections 1 and 2.
 */
public final class BalanceEdgesTest {
    private static final long NO = RodBench.NO;

    private BalanceEdgesTest() {
    }

    public static void main(String[] args) {
        motionsWithoutRods();
        motionsOfHeldPins();
        motionOutsideIsNo();
        motionsAreNoughtInOtherLooseColumns();
        motionsAreAboveNoughtWithoutDivisor();
        stressesOfAllRods();
        stressesOfRodsOut();
        stressOutsideIsNo();
        stressColumnsAreByNumbers();
        stressesAreAboveNoughtWithoutDivisor();
        rankIsBothDifferences();
        stiffFromNoPinToTwo();
        stiffWithHeldPins();
        stiffOnlyWithWholeMotions();
        tightOnlyWithOneStress();
        tightIsAboveAndBelowNought();
        tightByTheContrary();
        tightBetweenHeldPins();
        tightWithSparesOfAnySign();
        carryWithNothingThere();
        carryAlongEachColumn();
        carryAtTheGreatestForces();
        forceOutsideIsNo();
        forceIsNoIfThereAreNone();
        forceInLowestTerms();
        forceOfARodThatIsOut();
        forceIsNoughtInLooseColumns();
        givesTheFirst();
        carryJustIfNothingGives();
        bigNumbersStayRight();
        Due.end();
    }

    private static RodBench fewPins() {
        RodBench x = new RodBench();
        Edges.few(x);
        return x;
    }

    private static RodBench fullBench() {
        RodBench x = new RodBench();
        Edges.full(x);
        return x;
    }

    private static RodBench sixPins() {
        RodBench x = new RodBench();
        Edges.sixPins(x);
        return x;
    }

    private static void motionRow(String frame, RodBench x, int i, long... due) {
        for (int column = 0; column < due.length; column++) {
            Due.is(frame + ": motion(" + i + ", " + column / 2 + ", " + column % 2 + ")", due[column],
                x.motion(i, column / 2, column % 2));
        }
    }

    private static void stressRow(String frame, RodBench x, int i, long... due) {
        for (int rod = 0; rod < due.length; rod++) {
            Due.is(frame + ": stress(" + i + ", " + rod + ")", due[rod], x.stress(i, rod));
        }
    }

    /** No rod is in: each column is loose, x first, from two motions to twelve. */
    private static void motionsWithoutRods() {
        RodBench x = new RodBench();
        Due.is("no pins: motion(0, 0, 0)", NO, x.motion(0, 0, 0));
        for (int pins = 1; pins <= 6; pins++) {
            x.pin(Edges.SIX_PLACES[pins - 1][0], Edges.SIX_PLACES[pins - 1][1]);
            for (int i = 0; i < 2 * pins; i++) {
                long[] due = new long[2 * pins];
                due[i] = 1;
                motionRow(pins + " pins", x, i, due);
            }
            Due.is("one too many", NO, x.motion(2 * pins, 0, 0));
        }
    }

    /** '(HELD ones 0 and 0)', and no columns of theirs; all held: no motion. */
    private static void motionsOfHeldPins() {
        RodBench x = new RodBench();
        x.pin(0, 0);
        x.pin(5, 5);
        x.pin(0, 5);
        x.hold(1, true);
        motionRow("the middle one is held", x, 0, 1, 0, 0, 0, 0, 0);
        motionRow("the middle one is held", x, 1, 0, 1, 0, 0, 0, 0);
        motionRow("the middle one is held", x, 2, 0, 0, 0, 0, 1, 0);
        motionRow("the middle one is held", x, 3, 0, 0, 0, 0, 0, 1);
        Due.is("no fifth", NO, x.motion(4, 2, 1));
        x.hold(0, true);
        motionRow("two are held", x, 1, 0, 0, 0, 0, 0, 1);
        x.hold(2, true);
        Due.is("all are held: motion(0, 0, 0)", NO, x.motion(0, 0, 0));
        Due.is("all are held: count(4)", 0, x.count(4));
    }

    private static void motionOutsideIsNo() {
        Due.is("the last of all: motion(1, 3, 1)", 1, fewPins().motion(1, 3, 1));
        for (int far : Edges.outside(0, 1)) {
            Telling.refused("motion(" + far + ", 0, 0)", NO, Edges::few, x -> x.motion(far, 0, 0));
            Telling.refused("motion(0, 0, " + far + ")", NO, Edges::few, x -> x.motion(0, 0, far));
            Telling.refused("held: motion(0, 1, " + far + ")", NO, Edges::few, x -> x.motion(0, 1, far));
        }
        for (int far : Edges.outside(0, 3)) {
            Telling.refused("motion(0, " + far + ", 1)", NO, Edges::few, x -> x.motion(0, far, 1));
        }
        for (int far : Edges.outside(0, 0)) {
            Telling.refused("full: motion(" + far + ", 5, 1)", NO, Edges::full, x -> x.motion(far, 5, 1));
        }
        Due.is("full: the only motion turns about pin 5", 1, fullBench().count(4));
    }

    /** x0 = 0, y2 = 0, x2 = x3 and 4 x2 = 3 y0. */
    private static void motionsAreNoughtInOtherLooseColumns() {
        RodBench x = fewPins();
        Due.is("count(4)", 2, x.count(4));
        motionRow("few", x, 0, 0, 4, 0, 0, 3, 0, 3, 0);
        motionRow("few", x, 1, 0, 0, 0, 0, 0, 0, 0, 1);
        x.put(4, false);
        Due.is("without the gift: count(4)", 3, x.count(4));
        motionRow("without the gift", x, 0, 0, 1, 0, 0, 0, 0, 0, 0);
        motionRow("without the gift", x, 1, 0, 0, 0, 0, 1, 0, 1, 0);
        motionRow("without the gift", x, 2, 0, 0, 0, 0, 0, 0, 0, 1);
    }

    /** A rod from a held pin by (4, 2), then by (-4, 2), (2, 5): 4 x + 2 y = 0 and so on. */
    private static void motionsAreAboveNoughtWithoutDivisor() {
        RodBench x = new RodBench();
        x.pin(1, 0);
        x.pin(5, 2);
        x.hold(0, true);
        x.rod(0, 0, 1, 0);
        motionRow("4 x + 2 y", x, 0, 0, 0, -1, 2);
        x.move(0, 5, 5);
        motionRow("y alone", x, 0, 0, 0, 1, 0);
        x.move(0, 0, 2);
        motionRow("x alone", x, 0, 0, 0, 0, 1);
        x.move(0, 3, 5);
        motionRow("2 x - 3 y", x, 0, 0, 0, 3, 2);
        x.move(0, 1, 4);
        motionRow("4 x - 2 y", x, 0, 0, 0, 1, 2);
    }

    /** All pins held: each rod that is in is a stress of its own, up to fifteen. */
    private static void stressesOfAllRods() {
        RodBench x = sixPins();
        for (int pin = 0; pin < 6; pin++) {
            x.hold(pin, true);
        }
        Due.is("no rod: stress(0, 0)", NO, x.stress(0, 0));
        int rods = 0;
        for (int a = 0; a < 6; a++) {
            for (int b = a + 1; b < 6; b++) {
                x.rod(rods % 3, a, b, 0);
                rods++;
                long[] due = new long[rods];
                due[rods - 1] = 1;
                stressRow("all held", x, rods - 1, due);
                Due.is("one too many", NO, x.stress(rods, 0));
                Due.is("no such rod", NO, x.stress(0, rods));
            }
        }
        for (int i = 0; i < 15; i++) {
            long[] due = new long[15];
            due[i] = 1;
            stressRow("all held, fifteen rods", x, i, due);
        }
    }

    /** '(OUT: 0)': rods that are out have no column. */
    private static void stressesOfRodsOut() {
        RodBench x = sixPins();
        x.hold(0, true);
        x.hold(1, true);
        x.hold(2, true);
        x.rod(3, 0, 1, 5);
        x.rod(0, 1, 2, 0);
        x.rod(4, 0, 2, 0);
        stressRow("the second is in", x, 0, 0, 1, 0);
        Due.is("just one", NO, x.stress(1, 0));
        Due.is("just one, a rod that is out", NO, x.stress(1, 2));
        x.put(2, true);
        stressRow("the last too", x, 0, 0, 1, 0);
        stressRow("the last too", x, 1, 0, 0, 1);
        x.put(0, true);
        stressRow("all", x, 0, 1, 0, 0);
        stressRow("all", x, 2, 0, 0, 1);
    }

    private static void stressOutsideIsNo() {
        for (int far : Edges.outside(0, 4)) {
            Telling.refused("no stresses: stress(0, " + far + ")", NO, Edges::few, x -> x.stress(0, far));
        }
        for (int i : Edges.outside(1, 0)) {
            Telling.refused("no stresses: stress(" + i + ", 0)", NO, Edges::few, x -> x.stress(i, 0));
        }
        int many = fullBench().count(5);
        Due.is("full: eleven are in, and the rank is nine", 2, many);
        Due.holds("full: the last is there", fullBench().stress(many - 1, 14) != NO);
        for (int far : Edges.outside(0, many - 1)) {
            Telling.refused("full: stress(" + far + ", 14)", NO, Edges::full, x -> x.stress(far, 14));
            Telling.refused("full: stress(" + far + ", 3), out", NO, Edges::full, x -> x.stress(far, 3));
        }
        for (int far : Edges.outside(0, 14)) {
            Telling.refused("full: stress(0, " + far + ")", NO, Edges::full, x -> x.stress(0, far));
        }
    }

    /** 'the columns are the RODS that are IN, by numbers': not in the order in which they came in. */
    private static void stressColumnsAreByNumbers() {
        RodBench x = new RodBench();
        x.pin(0, 0);
        x.pin(5, 0);
        x.pin(5, 5);
        x.pin(0, 5);
        x.rod(4, 0, 2, 0);
        x.rod(0, 1, 3, 0);
        for (int i = 0; i < 4; i++) {
            x.rod(0, i, (i + 1) % 4, 0);
        }
        Due.is("the gift is out: stress(0, 5)", NO, x.stress(0, 5));
        x.put(0, true);
        stressRow("the gift came in last", x, 0, -1, -1, 1, 1, 1, 1);
    }

    /** Pins on a line, the middle one free: 1 from one held pin, 4 from the other. */
    private static void stressesAreAboveNoughtWithoutDivisor() {
        RodBench x = new RodBench();
        x.pin(0, 0);
        x.pin(1, 0);
        x.pin(5, 0);
        x.hold(0, true);
        x.hold(2, true);
        x.rod(0, 0, 1, 0);
        x.rod(0, 1, 2, 0);
        stressRow("1 and 4", x, 0, 4, 1);
        x.move(1, 3, 0);
        stressRow("3 and 2", x, 0, 2, 3);
        x.move(2, 5, 2);
        Due.is("off the line", NO, x.stress(0, 0));
        x.move(2, 1, 0);
        // the middle one lies outside: 3 s0 + 2 s1 = 0
        stressRow("3 and -2", x, 0, -2, 3);
        x.move(0, 5, 0);
        x.move(1, 3, 0);
        stressRow("2 and 2: no divisor but 1", x, 0, 1, 1);
    }

    /** 'twice the FREE PINS less how many MOTIONS'; 'also RODS that are IN less STRESSES'. */
    private static void rankIsBothDifferences() {
        for (int held = 0; held <= 6; held++) {
            RodBench x = sixPins();
            for (int pin = 0; pin < held; pin++) {
                x.hold(pin, true);
            }
            ranks("no rods", x, 0);
            for (int a = 0; a < 6; a++) {
                for (int b = a + 1; b < 6; b++) {
                    x.rod((a + b) % 2 == 0 ? 4 : 2, a, b, 0);
                    ranks("rods, " + held + " held", x, -1);
                }
            }
            int[] dueOfAll = {9, 9, 8, 6, 4, 2, 0};
            for (int rod = 0; rod < 15; rod++) {
                x.put(rod, true);
            }
            ranks("all in, " + held + " held", x, dueOfAll[held]);
        }
        ranks("no pins", new RodBench(), 0);
    }

    private static void ranks(String frame, RodBench x, int due) {
        int rank = x.count(6);
        Due.is(frame + ": by motions", rank, 2 * x.count(1) - x.count(4));
        Due.is(frame + ": by stresses", rank, x.count(3) - x.count(5));
        if (due >= 0) {
            Due.is(frame + ": count(6)", due, rank);
        }
    }

    private static void stiffFromNoPinToTwo() {
        RodBench x = new RodBench();
        Due.is("no pin", 1, x.stiff());
        x.pin(5, 5);
        Due.is("one pin", 1, x.stiff());
        x.pin(0, 5);
        Due.is("two pins", 0, x.stiff());
        x.rod(4, 0, 1, 0);
        Due.is("two pins, a rod that is out", 0, x.stiff());
        x.put(0, true);
        Due.is("two pins, a rod", 1, x.stiff());
        x.pin(5, 0);
        Due.is("a third pin", 0, x.stiff());
    }

    /** 'HELD ones too': a motion of the whole plane is 0 and 0 at them. */
    private static void stiffWithHeldPins() {
        RodBench x = new RodBench();
        x.pin(2, 2);
        x.hold(0, true);
        Due.is("one, held", 1, x.stiff());
        x.pin(4, 4);
        Due.is("one held, one free", 0, x.stiff());
        x.rod(0, 0, 1, 0);
        Due.is("it turns about the held one", 1, x.stiff());
        x.hold(1, true);
        Due.is("two, both held", 1, x.stiff());
        x.pin(4, 2);
        x.rod(0, 0, 2, 0);
        Due.is("two held, and one that turns about one of them", 0, x.stiff());
        x.rod(0, 1, 2, 0);
        Due.is("and is held by both", 1, x.stiff());
        x.move(2, 3, 3);
        Due.is("between them, on their line", 0, x.stiff());
        x.hold(2, true);
        Due.is("all held", 1, x.stiff());
    }

    /** A triangle with a held corner turns; with two held ones nothing moves; a fourth pin is loose. */
    private static void stiffOnlyWithWholeMotions() {
        RodBench x = new RodBench();
        x.pin(0, 0);
        x.pin(5, 0);
        x.pin(0, 5);
        x.rod(0, 0, 1, 0);
        x.rod(0, 1, 2, 0);
        x.rod(0, 2, 0, 0);
        int[] motions = {3, 1, 0, 0};
        for (int held = 0; held <= 3; held++) {
            Due.is("a triangle, " + held + " held: count(4)", motions[held], x.count(4));
            Due.is("a triangle, " + held + " held: stiff()", 1, x.stiff());
            x.hold(held, true);
        }
        x.pin(5, 5);
        Due.is("a fourth pin", 0, x.stiff());
        x.hold(3, true);
        Due.is("held as well", 1, x.stiff());
    }

    /** 'NONE: there is not just one STRESS': none, one, two. */
    private static void tightOnlyWithOneStress() {
        RodBench x = new RodBench();
        Due.is("no pins", -1, x.tight());
        Edges.sixPins(x);
        Due.is("no rods", -1, x.tight());
        x.hold(0, true);
        x.hold(1, true);
        x.hold(2, true);
        x.rod(0, 3, 4, 0);
        Due.is("a rod, no stress", -1, x.tight());
        x.rod(0, 0, 1, 0);
        Due.is("one stress", 1, x.tight());
        x.rod(4, 0, 2, 0);
        Due.is("one stress, a gift out", 1, x.tight());
        x.put(2, true);
        Due.is("two stresses", -1, x.tight());
    }

    /** A frame in which the rod to pin 4 has 0 in the only stress: 0 is neither above nor below 0. */
    private static void tightIsAboveAndBelowNought() {
        int[] due = {1, 0, 0};
        for (int kind = 0; kind < 3; kind++) {
            RodBench x = new RodBench();
            x.pin(0, 0);
            x.pin(5, 0);
            x.pin(2, 0);
            x.pin(2, 5);
            x.hold(0, true);
            x.hold(1, true);
            x.rod(1, 0, 2, 0);
            x.rod(1, 2, 1, 0);
            x.rod(kind, 2, 3, 0);
            Due.is("a rod of kind " + kind + " with 0: stress(0, 2)", 0, x.stress(0, 2));
            Due.is("a rod of kind " + kind + " with 0: tight()", due[kind], x.tight());
        }
    }

    /** A free pin between two held ones: both rods have one sign. Outside them: unlike signs. */
    private static void tightByTheContrary() {
        int[][] kinds = {{1, 1}, {2, 2}, {1, 2}, {2, 1}, {0, 1}, {0, 2}, {1, 0}, {2, 0}, {0, 0}};
        int[] between = {1, 1, 0, 0, 1, 1, 1, 1, 1};
        int[] outside = {0, 0, 1, 1, 1, 1, 1, 1, 1};
        for (int i = 0; i < kinds.length; i++) {
            RodBench x = new RodBench();
            x.pin(1, 1);
            x.pin(2, 1);
            x.pin(4, 1);
            x.hold(0, true);
            x.hold(2, true);
            x.rod(kinds[i][0], 0, 1, 0);
            x.rod(kinds[i][1], 2, 1, 0);
            String what = "kinds " + kinds[i][0] + " and " + kinds[i][1];
            Due.is(what + ", between", between[i], x.tight());
            x.move(1, 5, 1);
            Due.is(what + ", outside", outside[i], x.tight());
        }
    }

    private static void tightBetweenHeldPins() {
        for (int kind = 0; kind < 3; kind++) {
            RodBench x = new RodBench();
            x.pin(0, 0);
            x.pin(5, 5);
            x.hold(0, true);
            x.hold(1, true);
            Due.is("no rod", -1, x.tight());
            x.rod(kind, 0, 1, 0);
            Due.is("a rod of kind " + kind + " alone", 1, x.tight());
        }
    }

    private static void tightWithSparesOfAnySign() {
        for (int kind = 3; kind < 5; kind++) {
            RodBench x = new RodBench();
            x.pin(0, 0);
            x.pin(2, 0);
            x.pin(5, 0);
            x.hold(0, true);
            x.hold(2, true);
            x.rod(kind, 0, 1, kind == 3 ? 1 : 0);
            x.rod(1, 1, 2, 0);
            Due.is("kind " + kind + " out", -1, x.tight());
            x.put(0, true);
            Due.is("kind " + kind + ", the same sign", 1, x.tight());
            x.move(0, 4, 0);
            x.move(1, 3, 0);
            Due.is("kind " + kind + ", the same sign still", 1, x.tight());
            x.move(1, 1, 0);
            Due.is("kind " + kind + ", the other sign", 1, x.tight());
        }
    }

    /** No pins, no free pins, no rods, no load: nothing is to be carried. */
    private static void carryWithNothingThere() {
        RodBench x = new RodBench();
        Due.is("no pins", 1, x.carry());
        Due.is("no pins: gives()", -1, x.gives());
        Edges.sixPins(x);
        Due.is("no rods, no load", 1, x.carry());
        for (int pin = 0; pin < 6; pin++) {
            x.load(pin, 20, 20);
            Due.is("no rods: carry()", 0, x.carry());
            x.hold(pin, true);
            Due.is("held: carry()", 1, x.carry());
        }
    }

    /** A force of 1 in a single column, with no rod in. */
    private static void carryAlongEachColumn() {
        RodBench x = sixPins();
        for (int column = 0; column < 12; column++) {
            for (int force = -1; force <= 1; force++) {
                x.load(column / 2, column % 2 == 0 ? force : 0, column % 2 == 0 ? 0 : force);
                Due.is("column " + column + ", " + force + ": carry()", force == 0 ? 1 : 0, x.carry());
                Due.is("column " + column + ", " + force + ": gives()", force == 0 ? -1 : column, x.gives());
            }
            x.load(column / 2, 0, 0);
        }
    }

    private static void carryAtTheGreatestForces() {
        RodBench x = new RodBench();
        x.pin(0, 0);
        x.pin(5, 5);
        x.pin(5, 0);
        x.hold(0, true);
        x.rod(0, 0, 1, 0);
        x.load(1, 20, 20);
        Due.is("20 and 20: carry()", 1, x.carry());
        Due.is("20 and 20: force(0, 0)", 4, x.force(0, 0));
        x.load(1, -20, -20);
        Due.is("-20 and -20: carry()", 1, x.carry());
        Due.is("-20 and -20: force(0, 0)", -4, x.force(0, 0));
        x.load(1, 20, 19);
        Due.is("20 and 19: carry()", 0, x.carry());
        x.load(1, 20, -20);
        Due.is("20 and -20: carry()", 0, x.carry());
        Due.is("20 and -20: gives()", 0, x.gives());
    }

    private static void forceOutsideIsNo() {
        RodBench x = fewPins();
        x.load(0, 0, 0);
        x.load(3, 0, 0);
        Due.is("carry()", 1, x.carry());
        for (int far : Edges.outside(0, 4)) {
            Due.is("force(" + far + ", 0)", NO, x.force(far, 0));
            Due.is("force(" + far + ", 1)", NO, x.force(far, 1));
        }
        for (int far : Edges.outside(0, 1)) {
            Due.is("force(0, " + far + ")", NO, x.force(0, far));
            Due.is("out: force(3, " + far + ")", NO, x.force(3, far));
            Telling.refused("force(4, " + far + ")", NO, Edges::few, y -> y.force(4, far));
        }
        Due.is("the last: force(4, 1)", 1, x.force(4, 1));
        Due.is("empty: force(0, 0)", NO, new RodBench().force(0, 0));
    }

    private static void forceIsNoIfThereAreNone() {
        for (int rod = 0; rod < 5; rod++) {
            int one = rod;
            Telling.refused("none: force(" + rod + ", 0)", NO, Edges::few, x -> x.force(one, 0));
            Telling.refused("none: force(" + rod + ", 1)", NO, Edges::few, x -> x.force(one, 1));
        }
    }

    /** 'the fraction in lowest terms', 'below the line (above 0)': a rod of 4, for each force along it. */
    private static void forceInLowestTerms() {
        RodBench x = new RodBench();
        x.pin(0, 2);
        x.pin(4, 2);
        x.pin(4, 5);
        x.hold(0, true);
        x.hold(2, true);
        x.rod(0, 0, 1, 0);
        x.rod(0, 1, 2, 0);
        int[] below = {1, 4, 2, 4};
        for (int force = -20; force <= 20; force++) {
            x.load(1, force, -force);
            int left = below[Math.abs(force) % 4];
            Due.is("4 f = " + force + ": force(0, 0)", force * left / 4, x.force(0, 0));
            Due.is("4 f = " + force + ": force(0, 1)", left, x.force(0, 1));
            int up = force % 3 == 0 ? 1 : 3;
            Due.is("-3 f = " + -force + ": force(1, 0)", force * up / 3, x.force(1, 0));
            Due.is("-3 f = " + -force + ": force(1, 1)", up, x.force(1, 1));
        }
    }

    /** 'OUT: 0 and 1'. */
    private static void forceOfARodThatIsOut() {
        RodBench x = new RodBench();
        x.pin(0, 0);
        x.pin(5, 0);
        x.pin(0, 5);
        x.hold(0, true);
        x.rod(3, 1, 2, 7);
        x.rod(0, 0, 1, 0);
        x.rod(4, 0, 2, 0);
        x.load(1, 7, 0);
        long[][] due = {{0, 1}, {7, 5}, {0, 1}};
        for (int rod = 0; rod < 3; rod++) {
            Due.is("force(" + rod + ", 0)", due[rod][0], x.force(rod, 0));
            Due.is("force(" + rod + ", 1)", due[rod][1], x.force(rod, 1));
        }
        x.put(2, true);
        Due.is("in, but not pulled: force(2, 0)", 0, x.force(2, 0));
        Due.is("in, but not pulled: force(2, 1)", 1, x.force(2, 1));
    }

    /** 'those that are 0 in each LOOSE column of STRESSES': the rods of least numbers carry. */
    private static void forceIsNoughtInLooseColumns() {
        RodBench x = new RodBench();
        x.pin(0, 0);
        x.pin(2, 0);
        x.pin(5, 0);
        x.hold(0, true);
        x.hold(2, true);
        x.rod(4, 1, 2, 0);
        x.rod(0, 0, 1, 0);
        x.load(1, 6, 0);
        Due.is("alone: force(1, 0)", 3, x.force(1, 0));
        x.put(0, true);
        Due.is("of the two the first carries: force(0, 0)", -2, x.force(0, 0));
        Due.is("of the two the first carries: force(0, 1)", 1, x.force(0, 1));
        Due.is("the loose one: force(1, 0)", 0, x.force(1, 0));
        Due.is("the loose one: force(1, 1)", 1, x.force(1, 1));
    }

    /** The first of several, and the last of all. */
    private static void givesTheFirst() {
        RodBench x = sixPins();
        x.load(5, 0, -20);
        Due.is("the last of all", 11, x.gives());
        x.load(5, 1, -20);
        Due.is("the last but one", 10, x.gives());
        x.load(2, 0, 1);
        Due.is("an earlier one", 5, x.gives());
        x.load(0, -1, 0);
        Due.is("the first of all", 0, x.gives());
        RodBench y = fewPins();
        Due.is("few: gives()", 0, y.gives());
        y.load(0, 3, 0);
        Due.is("few, along rod 0: gives()", 1, y.gives());
        y.load(3, 0, 0);
        Due.is("few, rods alone: gives()", -1, y.gives());
        // 4 y0 + 3 x2 + 3 x3: the work of each pin is not 0, that of all is
        y.load(0, 0, 3);
        y.load(2, -1, 0);
        y.load(3, -3, 0);
        Due.is("few, work that makes up for itself: gives()", -1, y.gives());
        Due.is("few, work that makes up for itself: carry()", 1, y.carry());
    }

    /** Forces that carry are there just if no motion has work. */
    private static void carryJustIfNothingGives() {
        RodBench x = fewPins();
        for (int force = -20; force <= 20; force++) {
            x.load(0, 1, force);
            x.load(2, -force, 2);
            x.load(3, force / 3, 0);
            Due.is("with " + force, x.gives() < 0 ? 1 : 0, x.carry());
            boolean right = 4 * force - 3 * force + 3 * (force / 3) == 0;
            Due.is("with " + force + ": carry()", right ? 1 : 0, x.carry());
        }
    }

    /** Each stress and each motion of a frame with long rods still is one, in the numbers told. */
    private static void bigNumbersStayRight() {
        int[][] places = {{0, 1}, {5, 3}, {1, 5}, {4, 0}, {2, 4}, {3, 2}};
        RodBench x = new RodBench();
        for (int[] place : places) {
            x.pin(place[0], place[1]);
        }
        int rods = 0;
        for (int a = 0; a < 6; a++) {
            for (int b = a + 1; b < 6; b++) {
                x.rod(0, a, b, 0);
                rods++;
            }
        }
        Due.is("stresses", 6, x.count(5));
        for (int i = 0; i < 6; i++) {
            for (int column = 0; column < 12; column++) {
                long sum = 0;
                for (int rod = 0; rod < rods; rod++) {
                    int pin = column / 2;
                    int first = x.rodTold(rod, 1);
                    int second = x.rodTold(rod, 2);
                    int gap = places[first][column % 2] - places[second][column % 2];
                    sum += (first == pin ? gap : second == pin ? -gap : 0) * x.stress(i, rod);
                }
                Due.is("stress " + i + " at column " + column, 0, sum);
            }
            Due.holds("stress " + i + " is one", x.stress(i, 9 + i) > 0);
        }
    }
}
