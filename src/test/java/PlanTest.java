/** Promises 20 and 21: the plan and what it costs. */
public final class PlanTest {
    private PlanTest() {
    }

    public static void main(String[] args) {
        byPrice();
        equalPricesByNumbers();
        giftsFirst();
        onlyWhatMakesMotionsFewer();
        doesNotHold();
        withHeldPins();
        placesMatter();
        nothingOut();
        followsThePuts();
        refused();
        Due.end();
    }

    /** A square of rods: one of its two diagonals makes it hold. */
    private static RodBench square() {
        RodBench x = new RodBench();
        x.pin(1, 1);
        x.pin(4, 1);
        x.pin(4, 4);
        x.pin(1, 4);
        for (int i = 0; i < 4; i++) {
            x.rod(0, i, (i + 1) % 4, 0);
        }
        return x;
    }

    private static void plan(String frame, RodBench x, int cheapest, int... due) {
        for (int i = 0; i < due.length; i++) {
            Due.is(frame + ": plan(" + i + ")", due[i], x.plan(i));
        }
        Due.is(frame + ": plan(" + due.length + ")", -1, x.plan(due.length));
        Due.is(frame + ": cheapest()", cheapest, x.cheapest());
    }

    private static void byPrice() {
        RodBench x = square();
        x.rod(3, 0, 2, 8);
        plan("one offer", x, 8, 4);
        x.rod(3, 1, 3, 7);
        plan("a cheaper one", x, 7, 5);
    }

    private static void equalPricesByNumbers() {
        RodBench x = square();
        x.rod(3, 0, 2, 7);
        x.rod(3, 1, 3, 7);
        plan("two of a price", x, 7, 4);
        RodBench y = new RodBench();
        y.pin(0, 0);
        y.pin(5, 0);
        y.pin(0, 5);
        y.rod(3, 0, 1, 3);
        y.rod(3, 1, 2, 2);
        y.rod(3, 2, 0, 3);
        plan("three, the second first", y, 8, 1, 0, 2);
    }

    private static void giftsFirst() {
        RodBench x = square();
        x.rod(3, 0, 2, 1);
        x.rod(4, 1, 3, 0);
        plan("a gift", x, 0, 5);
        x.pin(0, 0);
        x.rod(3, 4, 0, 1000);
        x.rod(4, 4, 1, 0);
        plan("two gifts", x, 1000, 5, 7, 6);
    }

    private static void onlyWhatMakesMotionsFewer() {
        RodBench x = square();
        x.pin(5, 5);
        x.rod(3, 4, 2, 4);
        x.rod(3, 0, 4, 3);
        x.rod(3, 0, 2, 2);
        x.rod(3, 4, 3, 5);
        // 0, 2 and 4 lie on a line: with 0-2 and 0-4 the rod 2-4 adds nothing
        plan("on a line", x, 10, 6, 5, 7);
    }

    private static void doesNotHold() {
        RodBench x = square();
        plan("no offers", x, -1);
        x.pin(0, 0);
        x.rod(3, 0, 2, 5);
        x.rod(3, 0, 4, 6);
        plan("too few offers", x, -1, 4, 5);
        x.rod(3, 2, 4, 7);
        plan("an offer of no use", x, -1, 4, 5);
        x.rod(3, 1, 4, 9);
        plan("enough", x, 20, 4, 5, 7);
    }

    private static void withHeldPins() {
        RodBench x = new RodBench();
        x.pin(0, 0);
        x.pin(4, 0);
        x.pin(2, 3);
        x.rod(3, 0, 1, 1);
        x.rod(3, 1, 2, 2);
        x.rod(3, 2, 0, 3);
        plan("all free", x, 6, 0, 1, 2);
        x.hold(0, true);
        plan("one held", x, 6, 0, 1, 2);
        x.hold(1, true);
        plan("two held: the rod between them adds nothing", x, 5, 1, 2);
        x.hold(2, true);
        plan("all held", x, 0);
    }

    private static void placesMatter() {
        RodBench x = new RodBench();
        x.pin(0, 0);
        x.pin(4, 0);
        x.pin(2, 0);
        x.rod(0, 0, 1, 0);
        x.rod(3, 1, 2, 5);
        x.rod(3, 2, 0, 5);
        plan("on a line", x, -1, 1);
        x.move(2, 2, 1);
        plan("off the line", x, 10, 1, 2);
    }

    private static void nothingOut() {
        RodBench x = new RodBench();
        plan("no pin", x, 0);
        x.pin(0, 0);
        plan("one pin", x, 0);
        x.pin(1, 0);
        plan("two pins", x, -1);
        x.rod(0, 0, 1, 0);
        plan("two pins, a rod", x, 0);
    }

    private static void followsThePuts() {
        RodBench x = square();
        x.rod(3, 0, 2, 8);
        x.rod(3, 1, 3, 9);
        x.put(4, true);
        plan("it holds already", x, 0);
        x.put(5, true);
        plan("both are in", x, 0);
        x.put(4, false);
        plan("the dearer one is in", x, 0);
        x.put(5, false);
        plan("both are out", x, 8, 4);
    }

    private static void refused() {
        RodBench x = square();
        x.rod(3, 0, 2, 8);
        Due.is("plan(-1)", -1, x.plan(-1));
        Due.is("plan(1)", -1, x.plan(1));
        Due.is("plan(MAX)", -1, x.plan(Integer.MAX_VALUE));
        Due.is("plan(MIN)", -1, x.plan(Integer.MIN_VALUE));
    }
}
