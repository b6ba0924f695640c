/**
 * The sentences about what holds by counts, and about the plan, that name an edge, one test each:
 * promises 18 to 21, and sections 3 and 4.
 */
public final class BodyEdgesTest {
    private BodyEdgesTest() {
    }

    public static void main(String[] args) {
        couldOnlyWithTwoPinsOrMore();
        twiceThePinsLessThree();
        noPartMayHaveMore();
        surplusFromNoneToSix();
        heldPinsAreTakenForFree();
        placesDoNotMatter();
        bodiesAreTwoPinsOrMore();
        bodiesAreAsGreatAsCanBe();
        bodiesAreNumberedByLeastPins();
        noSuchBodyIsBad();
        noSuchPinOfABodyIsNone();
        badComesBeforeNone();
        planWithNothingOut();
        planOutsideIsNone();
        planByPriceThenByNumbers();
        planTakesOnlyWhatMakesMotionsFewer();
        planGoesOnTillNoneIsLeft();
        cheapestOfNothing();
        cheapestFrom0To9000();
        cheapestIsNoneIfItDoesNotHold();
        Due.end();
    }

    private static RodBench pins(int many) {
        RodBench x = new RodBench();
        for (int pin = 0; pin < many; pin++) {
            x.pin(Edges.SIX_PLACES[pin][0], Edges.SIX_PLACES[pin][1]);
        }
        return x;
    }

    private static void rods(RodBench x, int... ends) {
        for (int i = 0; i < ends.length; i += 2) {
            Due.holds("a rod " + ends[i] + "-" + ends[i + 1], x.rod(0, ends[i], ends[i + 1], 0) >= 0);
        }
    }

    private static void bodies(String frame, RodBench x, int[]... due) {
        Due.is(frame + ": count(7)", due.length, x.count(7));
        for (int body = 0; body < due.length; body++) {
            for (int i = 0; i < due[body].length; i++) {
                Due.is(frame + ": body(" + body + ", " + i + ")", due[body][i], x.body(body, i));
            }
            Due.is(frame + ": behind the last pin", -1, x.body(body, due[body].length));
        }
        Due.is(frame + ": behind the last body", -2, x.body(due.length, 0));
    }

    /** The eight rods of three pins to three, but for one: no body of them has three pins. */
    private static void eightBodies(RodBench x) {
        Edges.sixPins(x);
        rods(x, 0, 1, 0, 3, 0, 5, 2, 1, 2, 3, 2, 5, 4, 1, 4, 3);
    }

    private static void couldOnlyWithTwoPinsOrMore() {
        Due.is("no pin", 0, pins(0).could());
        Due.is("one pin", 0, pins(1).could());
        RodBench x = pins(1);
        x.hold(0, true);
        Due.is("one held pin", 0, x.could());
        x = pins(2);
        Due.is("two pins", 0, x.could());
        x.rod(4, 0, 1, 0);
        Due.is("two pins, a rod out", 0, x.could());
        x.put(0, true);
        Due.is("two pins, a rod in", 1, x.could());
    }

    /** A pin more, then rods from it to those that are there: one is too few, two are enough. */
    private static void twiceThePinsLessThree() {
        RodBench x = pins(2);
        rods(x, 0, 1);
        for (int pin = 2; pin < 6; pin++) {
            x.pin(Edges.SIX_PLACES[pin][0], Edges.SIX_PLACES[pin][1]);
            Due.is(pin + 1 + " pins, none to the last: could()", 0, x.could());
            Due.is(pin + 1 + " pins, none to the last: count(7)", 1, x.count(7));
            rods(x, pin, 0);
            Due.is(pin + 1 + " pins, one to the last: could()", 0, x.could());
            Due.is(pin + 1 + " pins, one to the last: count(7)", 2, x.count(7));
            rods(x, pin - 1, pin);
            Due.is(pin + 1 + " pins, two to the last: could()", 1, x.could());
            Due.is(pin + 1 + " pins, two to the last: count(7)", 1, x.count(7));
            Due.is(pin + 1 + " pins: count(8)", 0, x.count(8));
            Due.is(pin + 1 + " pins: twice less three", 2 * (pin + 1) - 3, x.count(3));
        }
    }

    /** 'of each part of it': four pins with six rods have one too many, however few all others have. */
    private static void noPartMayHaveMore() {
        RodBench x = pins(5);
        rods(x, 0, 1, 0, 2, 0, 3, 1, 2, 1, 3, 2, 3, 4, 0);
        Due.is("seven rods of five pins: could()", 0, x.could());
        Due.is("seven rods of five pins: count(8)", 1, x.count(8));
        bodies("seven rods of five pins", x, new int[] {0, 1, 2, 3}, new int[] {0, 4});
        rods(x, 4, 1);
        Due.is("eight rods of five pins: could()", 1, x.could());
        Due.is("eight rods of five pins: count(8)", 1, x.count(8));
    }

    /** All pairs of two pins to six: as many as there are less twice the pins less three. */
    private static void surplusFromNoneToSix() {
        int[] due = {0, 0, 0, 0, 1, 3, 6};
        RodBench x = new RodBench();
        Due.is("no pins: count(8)", 0, x.count(8));
        for (int pin = 0; pin < 6; pin++) {
            x.pin(Edges.SIX_PLACES[pin][0], Edges.SIX_PLACES[pin][1]);
            Due.is(pin + 1 + " pins, none to the last: count(8)", due[pin], x.count(8));
            for (int other = 0; other < pin; other++) {
                rods(x, other, pin);
                Due.is(pin + 1 + " pins, " + (other + 1) + " to the last: count(8)", due[pin] + Math.max(0, other - 1),
                    x.count(8));
            }
            Due.is(pin + 1 + " pins: count(8)", due[pin + 1], x.count(8));
        }
    }

    private static void heldPinsAreTakenForFree() {
        RodBench x = pins(6);
        rods(x, 0, 1, 1, 2, 2, 0, 3, 4);
        for (int pin = 0; pin < 6; pin++) {
            Due.is("could()", 0, x.could());
            Due.is("count(8)", 0, x.count(8));
            bodies(pin + " held", x, new int[] {0, 1, 2}, new int[] {3, 4});
            x.hold(pin, true);
        }
        RodBench y = pins(2);
        y.hold(0, true);
        y.hold(1, true);
        Due.is("two held ones without a rod: could()", 0, y.could());
        Due.is("they are stiff", 1, y.stiff());
        rods(y, 0, 1);
        Due.is("two held ones with a rod: could()", 1, y.could());
        Due.is("two held ones with a rod: count(8)", 0, y.count(8));
    }

    private static void placesDoNotMatter() {
        RodBench x = new RodBench();
        for (int pin = 0; pin < 6; pin++) {
            x.pin(pin, 5);
        }
        for (int pin = 1; pin < 6; pin++) {
            rods(x, pin - 1, pin);
        }
        Due.is("on a line, five rods: could()", 0, x.could());
        rods(x, 0, 2, 1, 3, 2, 4, 3, 5);
        Due.is("on a line, nine rods: could()", 1, x.could());
        Due.is("on a line, nine rods: count(8)", 0, x.count(8));
        Due.is("on a line, nine rods: stiff()", 0, x.stiff());
        bodies("on a line", x, new int[] {0, 1, 2, 3, 4, 5});
    }

    private static void bodiesAreTwoPinsOrMore() {
        bodies("no pins", pins(0));
        bodies("one pin", pins(1));
        bodies("six pins", pins(6));
        RodBench x = pins(6);
        rods(x, 4, 5);
        bodies("one rod", x, new int[] {4, 5});
    }

    private static void bodiesAreAsGreatAsCanBe() {
        RodBench x = new RodBench();
        eightBodies(x);
        Due.is("count(7)", 8, x.count(7));
        rods(x, 4, 5);
        bodies("three to three", x, new int[] {0, 1, 2, 3, 4, 5});
        x = pins(6);
        rods(x, 0, 1, 1, 2, 2, 0, 3, 4, 4, 5, 5, 3, 0, 3, 1, 4);
        bodies("two triangles, two rods", x, new int[] {0, 1, 2}, new int[] {0, 3}, new int[] {1, 4},
            new int[] {3, 4, 5});
        rods(x, 2, 5);
        bodies("two triangles, three rods", x, new int[] {0, 1, 2, 3, 4, 5});
    }

    /** 'by their least PINS, then by their second ones': not by how many they have, nor by rods. */
    private static void bodiesAreNumberedByLeastPins() {
        RodBench x = pins(6);
        rods(x, 4, 5, 3, 5, 3, 4, 2, 3, 0, 5, 0, 1);
        bodies("a triangle behind rods", x, new int[] {0, 1}, new int[] {0, 5}, new int[] {2, 3},
            new int[] {3, 4, 5});
        x = pins(6);
        rods(x, 0, 5, 1, 5, 1, 4, 4, 5, 0, 2, 2, 3, 0, 3);
        bodies("two triangles and a rod", x, new int[] {0, 2, 3}, new int[] {0, 5}, new int[] {1, 4, 5});
    }

    private static void noSuchBodyIsBad() {
        for (int far : Edges.outside(1, 0)) {
            Telling.refused("empty: body(" + far + ", 0)", -2, Edges::empty, x -> x.body(far, 0));
            Telling.refused("six pins: body(" + far + ", 0)", -2, Edges::sixPins, x -> x.body(far, 0));
        }
        for (int far : Edges.outside(0, 0)) {
            Telling.refused("full: body(" + far + ", 5)", -2, Edges::full, x -> x.body(far, 5));
        }
        for (int far : Edges.outside(0, 7)) {
            Telling.refused("eight: body(" + far + ", 1)", -2, BodyEdgesTest::eightBodies, x -> x.body(far, 1));
        }
        RodBench x = new RodBench();
        eightBodies(x);
        Due.is("eight: body(7, 0)", 3, x.body(7, 0));
        Due.is("eight: body(7, 1)", 4, x.body(7, 1));
    }

    private static void noSuchPinOfABodyIsNone() {
        for (int far : Edges.outside(0, 5)) {
            Telling.refused("full: body(0, " + far + ")", -1, Edges::full, x -> x.body(0, far));
        }
        for (int far : Edges.outside(0, 1)) {
            Telling.refused("eight: body(7, " + far + ")", -1, BodyEdgesTest::eightBodies, x -> x.body(7, far));
        }
        RodBench x = new RodBench();
        Edges.full(x);
        for (int i = 0; i < 6; i++) {
            Due.is("full: body(0, " + i + ")", i, x.body(0, i));
        }
    }

    private static void badComesBeforeNone() {
        for (int far : Edges.outside(0, 5)) {
            Telling.refused("BAD and NONE: body(1, " + far + ")", -2, Edges::full, x -> x.body(1, far));
            Telling.refused("BAD and NONE: body(-1, " + far + ")", -2, Edges::full, x -> x.body(-1, far));
        }
    }

    private static void plan(String frame, RodBench x, int cheapest, int... due) {
        for (int i = 0; i < due.length; i++) {
            Due.is(frame + ": plan(" + i + ")", due[i], x.plan(i));
        }
        Due.is(frame + ": plan(" + due.length + ")", -1, x.plan(due.length));
        Due.is(frame + ": cheapest()", cheapest, x.cheapest());
    }

    private static void planWithNothingOut() {
        plan("no pins", pins(0), 0);
        RodBench x = pins(3);
        rods(x, 0, 1, 1, 2, 2, 0);
        plan("a triangle of rods", x, 0);
        x = pins(2);
        x.rod(3, 0, 1, 9);
        plan("it is out", x, 9, 0);
        x.put(0, true);
        plan("it is in", x, 0);
    }

    private static void planOutsideIsNone() {
        for (int far : Edges.outside(1, 0)) {
            Telling.refused("empty: plan(" + far + ")", -1, Edges::empty, x -> x.plan(far));
        }
        RodBench few = new RodBench();
        Edges.few(few);
        Due.is("few: plan(0)", 3, few.plan(0));
        for (int far : Edges.outside(0, 0)) {
            Telling.refused("few: plan(" + far + ")", -1, Edges::few, x -> x.plan(far));
        }
    }

    /** Of six pins' fifteen pairs, each at one price; then one cheaper by 1, and the last one a gift. */
    private static void planByPriceThenByNumbers() {
        RodBench x = pins(6);
        for (int a = 0; a < 6; a++) {
            for (int b = a + 1; b < 6; b++) {
                x.rod(3, a, b, 500);
            }
        }
        plan("one price", x, 4500, 0, 1, 2, 3, 4, 5, 6, 7, 8);
        RodBench y = pins(4);
        y.rod(3, 0, 1, 2);
        y.rod(3, 0, 2, 2);
        y.rod(3, 0, 3, 1);
        y.rod(3, 1, 2, 3);
        y.rod(3, 1, 3, 2);
        y.rod(4, 2, 3, 0);
        plan("a gift, a cheap one, then by numbers", y, 7, 5, 2, 0, 1, 4);
    }

    private static void planTakesOnlyWhatMakesMotionsFewer() {
        RodBench x = pins(3);
        rods(x, 0, 1, 1, 2);
        x.hold(0, true);
        x.hold(2, true);
        x.rod(4, 0, 2, 0);
        plan("between held ones", x, 0);
        x.hold(2, false);
        plan("one of them is free", x, 0, 2);
        RodBench y = new RodBench();
        y.pin(0, 0);
        y.pin(2, 2);
        y.pin(5, 5);
        rods(y, 0, 1, 1, 2);
        y.rod(3, 0, 2, 1);
        plan("on a line with two rods", y, -1);
        y.move(1, 2, 3);
        plan("off the line", y, 1, 2);
    }

    /** A cheap one that is of no use does not end it, nor does a frame that is stiff already. */
    private static void planGoesOnTillNoneIsLeft() {
        RodBench x = pins(3);
        rods(x, 0, 1);
        x.hold(0, true);
        x.hold(1, true);
        x.rod(3, 1, 2, 5);
        x.rod(3, 0, 2, 4);
        plan("two of two", x, 9, 2, 1);
        RodBench y = pins(3);
        y.hold(0, true);
        rods(y, 0, 1, 1, 2, 2, 0);
        Due.is("stiff though it turns", 1, y.stiff());
        y.hold(1, true);
        plan("nothing moves", y, 0);
    }

    private static void cheapestOfNothing() {
        Due.is("no pin", 0, pins(0).cheapest());
        Due.is("one pin", 0, pins(1).cheapest());
        Due.is("two pins", -1, pins(2).cheapest());
        RodBench x = pins(2);
        x.rod(4, 0, 1, 0);
        Due.is("two pins, a gift", 0, x.cheapest());
        Due.is("two pins, a gift: plan(0)", 0, x.plan(0));
        x = pins(6);
        for (int pin = 0; pin < 6; pin++) {
            x.hold(pin, true);
        }
        Due.is("six held pins", 0, x.cheapest());
    }

    private static void cheapestFrom0To9000() {
        RodBench x = pins(6);
        for (int a = 0; a < 6; a++) {
            for (int b = a + 1; b < 6; b++) {
                x.rod(3, a, b, 1000);
            }
        }
        int[] due = {9000, 8000, 7000, 6000, 5000, 4000, 3000, 2000, 1000, 0, 0};
        for (int rod = 0; rod < due.length; rod++) {
            Due.is(rod + " in: cheapest()", due[rod], x.cheapest());
            x.put(rod, true);
        }
    }

    private static void cheapestIsNoneIfItDoesNotHold() {
        RodBench x = pins(4);
        rods(x, 0, 1, 1, 2);
        x.rod(3, 2, 3, 1);
        x.rod(3, 3, 0, 1000);
        plan("four of five", x, -1, 2, 3);
        x.rod(3, 0, 2, 1000);
        plan("five of five", x, 2001, 2, 3, 4);
        x.hold(0, true);
        x.hold(2, true);
        plan("two held, the last is of no use", x, 1001, 2, 3);
    }
}
