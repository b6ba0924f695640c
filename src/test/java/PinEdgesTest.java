/**
 * The sentences about pins that name an edge, one test each: promises 1 to 4, 8 and 14, and the
 * terms they stand on.
 */
public final class PinEdgesTest {
    private PinEdgesTest() {
    }

    public static void main(String[] args) {
        aNewObjectHasNothing();
        placesAre0To5();
        pinOutsideIsBad();
        pinWhereOneIsIsState();
        sixPinsAtMost();
        pinIsRefusedForTheFirstReason();
        refusedPinsTakeNoNumber();
        pinsComeFree();
        moveOutsideIsBad();
        moveToAnotherPinIsState();
        itsOwnPlaceIsRight();
        moveIsRefusedForTheFirstReason();
        moveReachesEachEdge();
        holdOutsideIsBad();
        holdTellsWhetherItWasOtherwise();
        forceIsNoughtOnceHeld();
        pinToldOutsideIsBad();
        pinToldFromNoRodToFive();
        loadsAreMinus20To20();
        loadOutsideIsBad();
        loadOfAHeldPinIsState();
        loadIsRefusedForTheFirstReason();
        forcesAreNoughtAtFirst();
        Due.end();
    }

    /** 'No PINS, no RODS': each call that names one is refused, and no tray holds a thing. */
    private static void aNewObjectHasNothing() {
        for (int number : new int[] {0, 1, 5, 14, -1, Integer.MAX_VALUE, Integer.MIN_VALUE}) {
            RodBench x = new RodBench();
            Due.is("new: move(" + number + ", 0, 0)", -2, x.move(number, 0, 0));
            Due.is("new: hold(" + number + ", true)", -2, x.hold(number, true));
            Due.is("new: hold(" + number + ", false)", -2, x.hold(number, false));
            Due.is("new: rod(0, " + number + ", 0, 0)", -2, x.rod(0, number, 0, 0));
            Due.is("new: rod(0, 1, " + number + ", 0)", -2, x.rod(0, 1, number, 0));
            Due.is("new: put(" + number + ", true)", -2, x.put(number, true));
            Due.is("new: load(" + number + ", 0, 0)", -2, x.load(number, 0, 0));
            Due.is("new: pinTold(" + number + ", 0)", -2, x.pinTold(number, 0));
            Due.is("new: rodTold(" + number + ", 0)", -2, x.rodTold(number, 0));
            Due.is("new: motion(" + number + ", 0, 0)", RodBench.NO, x.motion(number, 0, 0));
            Due.is("new: stress(" + number + ", 0)", RodBench.NO, x.stress(number, 0));
            Due.is("new: force(" + number + ", 0)", RodBench.NO, x.force(number, 0));
            Due.is("new: body(" + number + ", 0)", -2, x.body(number, 0));
            Due.is("new: plan(" + number + ")", -1, x.plan(number));
            Due.is("new: tray(0, 1, " + number + ")", -1, x.tray(0, 1, number));
            Due.is("new: tray(0, 2, " + number + ")", -1, x.tray(0, 2, number));
            for (int what = 0; what < 3; what++) {
                Due.is("new: count(" + what + ")", 0, x.count(what));
            }
        }
        for (int tray = 0; tray < 6; tray++) {
            RodBench x = new RodBench();
            Due.is("new: forge(" + tray + ", 6, 0)", 0, x.forge(tray, 6, 0));
            Due.is("new: forge(" + tray + ", 0, 0)", -1, x.forge(tray, 0, 0));
            Due.is("new: status()", 10, x.status());
        }
    }

    /** 'whole numbers x, y, 0 .. 5': all places about and inside. */
    private static void placesAre0To5() {
        for (int x = -2; x <= 7; x++) {
            for (int y = -2; y <= 7; y++) {
                boolean inside = 0 <= x && x <= 5 && 0 <= y && y <= 5;
                RodBench bench = new RodBench();
                Due.is("first: pin(" + x + ", " + y + ")", inside ? 0 : -2, bench.pin(x, y));
                Due.is("count(0) behind it", inside ? 1 : 0, bench.count(0));
                Due.is("its x", inside ? x : -2, bench.pinTold(0, 0));
                Due.is("its y", inside ? y : -2, bench.pinTold(0, 1));
            }
        }
    }

    private static void pinOutsideIsBad() {
        for (int far : Edges.outside(0, 5)) {
            for (int near : new int[] {0, 5}) {
                Telling.refused("pin(" + far + ", " + near + ")", -2, Edges::few, x -> x.pin(far, near));
                Telling.refused("pin(" + near + ", " + far + ")", -2, Edges::few, x -> x.pin(near, far));
            }
            Telling.refused("pin(" + far + ", " + far + ")", -2, Edges::few, x -> x.pin(far, far));
        }
    }

    /** 'unlike that of all others': of the first, of the last, of a held one; x alone may be alike. */
    private static void pinWhereOneIsIsState() {
        int[][] places = {{0, 0}, {4, 0}, {4, 3}, {0, 3}};
        for (int[] place : places) {
            Telling.refused("taken: pin(" + place[0] + ", " + place[1] + ")", -3, Edges::few,
                x -> x.pin(place[0], place[1]));
        }
        RodBench x = new RodBench();
        Due.is("pin(1, 2)", 0, x.pin(1, 2));
        Due.is("turned about: pin(2, 1)", 1, x.pin(2, 1));
        Due.is("the same x: pin(1, 1)", 2, x.pin(1, 1));
        Due.is("the same y: pin(2, 2)", 3, x.pin(2, 2));
        x.move(0, 5, 5);
        Due.is("where one has come: pin(5, 5)", -3, x.pin(5, 5));
        Due.is("where one has gone: pin(1, 2)", 4, x.pin(1, 2));
    }

    /** 'PINS (6 at most)': the sixth comes, the seventh does not, nor any behind it. */
    private static void sixPinsAtMost() {
        RodBench x = new RodBench();
        for (int i = 0; i < 6; i++) {
            Due.is("pin(" + i + ", 5)", i, x.pin(i, 5));
            Due.is("count(0)", i + 1, x.count(0));
        }
        for (int i = 0; i < 6; i++) {
            Due.is("one too many: pin(" + i + ", 4)", -4, x.pin(i, 4));
            Due.is("count(0)", 6, x.count(0));
        }
        x.hold(3, true);
        Due.is("a held one counts too: pin(0, 0)", -4, x.pin(0, 0));
        Telling.refused("full: pin(5, 5)", -4, Edges::full, y -> y.pin(5, 5));
        Telling.refused("full: pin(0, 5)", -4, Edges::full, y -> y.pin(0, 5));
    }

    /** BAD, STATE, FULL in that order. */
    private static void pinIsRefusedForTheFirstReason() {
        for (int far : Edges.outside(0, 5)) {
            Telling.refused("BAD and FULL: pin(" + far + ", 5)", -2, Edges::full, x -> x.pin(far, 5));
            Telling.refused("BAD and FULL: pin(5, " + far + ")", -2, Edges::full, x -> x.pin(5, far));
        }
        for (int[] place : Edges.SIX_PLACES) {
            Telling.refused("STATE and FULL: pin(" + place[0] + ", " + place[1] + ")", -3, Edges::full,
                x -> x.pin(place[0], place[1]));
        }
    }

    private static void refusedPinsTakeNoNumber() {
        RodBench x = new RodBench();
        for (int i = 0; i < 6; i++) {
            Due.is("BAD", -2, x.pin(6, i));
            Due.is("the next number", i, x.pin(i, i));
            Due.is("STATE", -3, x.pin(i, i));
        }
    }

    private static void pinsComeFree() {
        RodBench x = new RodBench();
        for (int i = 0; i < 6; i++) {
            x.pin(5, i);
            Due.is("pinTold(" + i + ", 2)", 0, x.pinTold(i, 2));
            Due.is("count(1)", i + 1, x.count(1));
        }
    }

    private static void moveOutsideIsBad() {
        for (int far : Edges.outside(0, 3)) {
            Telling.refused("move(" + far + ", 5, 5)", -2, Edges::few, x -> x.move(far, 5, 5));
        }
        for (int far : Edges.outside(0, 5)) {
            Telling.refused("move(1, " + far + ", 5)", -2, Edges::few, x -> x.move(1, far, 5));
            Telling.refused("move(3, 0, " + far + ")", -2, Edges::few, x -> x.move(3, 0, far));
            Telling.refused("full: move(" + far + ", 5, 5)", -2, Edges::full, x -> x.move(far, 5, 5));
        }
    }

    private static void moveToAnotherPinIsState() {
        int[][] places = {{0, 0}, {4, 0}, {4, 3}, {0, 3}};
        for (int pin = 0; pin < 4; pin++) {
            for (int other = 0; other < 4; other++) {
                int mover = pin;
                int[] place = places[other];
                if (pin != other) {
                    Telling.refused("move(" + pin + ", " + place[0] + ", " + place[1] + ")", -3, Edges::few,
                        x -> x.move(mover, place[0], place[1]));
                }
            }
        }
    }

    /** 'its own place is right': it answers 1, and all is as before. */
    private static void itsOwnPlaceIsRight() {
        for (int pin = 0; pin < 6; pin++) {
            int mover = pin;
            int[] place = Edges.SIX_PLACES[pin];
            Telling.changesNothing("its own: move(" + pin + ", " + place[0] + ", " + place[1] + ")", 1, Edges::full,
                x -> x.move(mover, place[0], place[1]), true);
        }
    }

    /** BAD before STATE: no such pin, to a place where one is. */
    private static void moveIsRefusedForTheFirstReason() {
        for (int far : Edges.outside(0, 3)) {
            Telling.refused("BAD and STATE: move(" + far + ", 4, 3)", -2, Edges::few, x -> x.move(far, 4, 3));
        }
    }

    private static void moveReachesEachEdge() {
        int[][] places = {{0, 5}, {5, 5}, {5, 0}, {5, 3}, {1, 1}, {1, 5}};
        for (int pin = 0; pin < 4; pin++) {
            RodBench x = new RodBench();
            Edges.few(x);
            for (int[] place : places) {
                Due.is("move(" + pin + ", " + place[0] + ", " + place[1] + ")", 1, x.move(pin, place[0], place[1]));
                Due.is("its x", place[0], x.pinTold(pin, 0));
                Due.is("its y", place[1], x.pinTold(pin, 1));
            }
            Due.is("held as before", pin == 1 ? 1 : 0, x.pinTold(pin, 2));
            Due.is("its force as before", pin == 3 ? 20 : pin == 0 ? -4 : 0, x.pinTold(pin, 5));
        }
    }

    private static void holdOutsideIsBad() {
        for (int far : Edges.outside(0, 3)) {
            Telling.refused("hold(" + far + ", true)", -2, Edges::few, x -> x.hold(far, true));
            Telling.refused("hold(" + far + ", false)", -2, Edges::few, x -> x.hold(far, false));
        }
        Telling.refused("full: hold(6, true)", -2, Edges::full, x -> x.hold(6, true));
    }

    /** '1 if it was otherwise, else 0', for the first pin and the last; 0 changes nothing. */
    private static void holdTellsWhetherItWasOtherwise() {
        for (int pin : new int[] {0, 5}) {
            RodBench x = new RodBench();
            Edges.sixPins(x);
            int[] held = {0, 1, 1, 0, 0, 1};
            int was = 0;
            for (int now : held) {
                Due.is("hold(" + pin + ", " + (now == 1) + ")", now == was ? 0 : 1, x.hold(pin, now == 1));
                Due.is("pinTold(" + pin + ", 2)", now, x.pinTold(pin, 2));
                Due.is("count(1)", 6 - now, x.count(1));
                was = now;
            }
        }
        Telling.changesNothing("free already: hold(0, false)", 0, Edges::few, x -> x.hold(0, false), true);
        Telling.changesNothing("held already: hold(1, true)", 0, Edges::few, x -> x.hold(1, true), true);
    }

    private static void forceIsNoughtOnceHeld() {
        RodBench x = new RodBench();
        Edges.few(x);
        Due.is("free: pinTold(0, 4)", 3, x.pinTold(0, 4));
        Due.is("free: pinTold(0, 5)", -4, x.pinTold(0, 5));
        Due.is("hold(0, false)", 0, x.hold(0, false));
        Due.is("still free: pinTold(0, 4)", 3, x.pinTold(0, 4));
        Due.is("still free: pinTold(0, 5)", -4, x.pinTold(0, 5));
        Due.is("hold(0, true)", 1, x.hold(0, true));
        Due.is("held: pinTold(0, 4)", 0, x.pinTold(0, 4));
        Due.is("held: pinTold(0, 5)", 0, x.pinTold(0, 5));
        Due.is("another's force stays", 20, x.pinTold(3, 5));
        Due.is("hold(0, false)", 1, x.hold(0, false));
        Due.is("free again: pinTold(0, 4)", 0, x.pinTold(0, 4));
        Due.is("free again: pinTold(0, 5)", 0, x.pinTold(0, 5));
    }

    private static void pinToldOutsideIsBad() {
        for (int far : Edges.outside(0, 3)) {
            for (int what = 0; what < 6; what++) {
                int asked = what;
                Telling.refused("pinTold(" + far + ", " + what + ")", -2, Edges::few, x -> x.pinTold(far, asked));
            }
        }
        for (int far : Edges.outside(0, 5)) {
            Telling.refused("pinTold(0, " + far + ")", -2, Edges::few, x -> x.pinTold(0, far));
            Telling.refused("full: pinTold(" + far + ", 0)", -2, Edges::full, x -> x.pinTold(far, 0));
            Telling.refused("full: pinTold(5, " + far + ")", -2, Edges::full, x -> x.pinTold(5, far));
        }
    }

    /** 'how many RODS that are IN it has': none, one more with each, and not those that are out. */
    private static void pinToldFromNoRodToFive() {
        RodBench x = new RodBench();
        Edges.sixPins(x);
        Due.is("no rod: pinTold(5, 3)", 0, x.pinTold(5, 3));
        for (int pin = 0; pin < 5; pin++) {
            x.rod(pin % 2 == 0 ? 4 : 3, pin % 2 == 0 ? pin : 5, pin % 2 == 0 ? 5 : pin, pin % 2);
            Due.is("out: pinTold(5, 3)", pin, x.pinTold(5, 3));
            x.put(pin, true);
            Due.is("in: pinTold(5, 3)", pin + 1, x.pinTold(5, 3));
            Due.is("the other end: pinTold(" + pin + ", 3)", 1, x.pinTold(pin, 3));
        }
    }

    /** 'whole x and y, -20 .. 20': each number about and inside, along x and along y. */
    private static void loadsAreMinus20To20() {
        RodBench x = new RodBench();
        x.pin(3, 3);
        int was = 0;
        for (int force = -23; force <= 23; force++) {
            boolean inside = -20 <= force && force <= 20;
            Due.is("load(0, " + force + ", 20)", inside ? 1 : -2, x.load(0, force, 20));
            Due.is("load(0, -20, " + force + ")", inside ? 1 : -2, x.load(0, -20, force));
            was = inside ? force : was;
            Due.is("pinTold(0, 4)", inside || force > 20 ? -20 : 0, x.pinTold(0, 4));
            Due.is("pinTold(0, 5)", was, x.pinTold(0, 5));
        }
    }

    private static void loadOutsideIsBad() {
        for (int far : Edges.outside(-20, 20)) {
            Telling.refused("load(0, " + far + ", 0)", -2, Edges::few, x -> x.load(0, far, 0));
            Telling.refused("load(3, 20, " + far + ")", -2, Edges::few, x -> x.load(3, 20, far));
        }
        for (int far : Edges.outside(0, 3)) {
            Telling.refused("load(" + far + ", 1, 1)", -2, Edges::few, x -> x.load(far, 1, 1));
        }
        Telling.refused("full: load(6, 0, 0)", -2, Edges::full, x -> x.load(6, 0, 0));
    }

    /** 'STATE: it is HELD': also for a force of 0 and 0. */
    private static void loadOfAHeldPinIsState() {
        Telling.refused("held: load(1, 0, 0)", -3, Edges::few, x -> x.load(1, 0, 0));
        Telling.refused("held: load(1, 20, -20)", -3, Edges::few, x -> x.load(1, 20, -20));
        Telling.refused("held: load(5, 1, 0)", -3, Edges::full, x -> x.load(5, 1, 0));
        RodBench x = new RodBench();
        Edges.few(x);
        x.hold(1, false);
        Due.is("free again: load(1, 20, -20)", 1, x.load(1, 20, -20));
    }

    /** BAD before STATE: a held pin, and a force outside. */
    private static void loadIsRefusedForTheFirstReason() {
        for (int far : Edges.outside(-20, 20)) {
            Telling.refused("BAD and STATE: load(1, " + far + ", 0)", -2, Edges::few, x -> x.load(1, far, 0));
            Telling.refused("BAD and STATE: load(1, 0, " + far + ")", -2, Edges::few, x -> x.load(1, 0, far));
        }
    }

    private static void forcesAreNoughtAtFirst() {
        RodBench x = new RodBench();
        Edges.sixPins(x);
        for (int pin = 0; pin < 6; pin++) {
            Due.is("pinTold(" + pin + ", 4)", 0, x.pinTold(pin, 4));
            Due.is("pinTold(" + pin + ", 5)", 0, x.pinTold(pin, 5));
        }
        Due.is("carry()", 1, x.carry());
        Due.is("gives()", -1, x.gives());
    }
}
