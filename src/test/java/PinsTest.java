/** Promises 1 to 4, 8 and 14: a new object; pins, their places, their holding and their forces. */
public final class PinsTest {
    private PinsTest() {
    }

    public static void main(String[] args) {
        newObject();
        pin();
        pinFull();
        refusedPinChangesNothing();
        move();
        moveTurnsTheFrame();
        hold();
        holdFreesTheForce();
        pinTold();
        load();
        objectsAreApart();
        Due.end();
    }

    private static void newObject() {
        RodBench x = new RodBench();
        for (int what = 0; what <= 9; what++) {
            Due.is("new count(" + what + ")", 0, x.count(what));
        }
        Due.is("new stiff()", 1, x.stiff());
        Due.is("new tight()", -1, x.tight());
        Due.is("new carry()", 1, x.carry());
        Due.is("new gives()", -1, x.gives());
        Due.is("new could()", 0, x.could());
        Due.is("new body(0, 0)", -2, x.body(0, 0));
        Due.is("new plan(0)", -1, x.plan(0));
        Due.is("new cheapest()", 0, x.cheapest());
        Due.is("new status()", 0, x.status());
        Due.is("new pinTold(0, 0)", -2, x.pinTold(0, 0));
        Due.is("new rodTold(0, 0)", -2, x.rodTold(0, 0));
        Due.is("new motion(0, 0, 0)", RodBench.NO, x.motion(0, 0, 0));
        Due.is("new stress(0, 0)", RodBench.NO, x.stress(0, 0));
        Due.is("new force(0, 0)", RodBench.NO, x.force(0, 0));
    }

    private static void pin() {
        RodBench x = new RodBench();
        Due.is("pin(5, 0)", 0, x.pin(5, 0));
        Due.is("pin(0, 5)", 1, x.pin(0, 5));
        Due.is("pin(5, 0) again", -3, x.pin(5, 0));
        Due.is("pin(0, 5) again", -3, x.pin(0, 5));
        Due.is("pin(5, 5)", 2, x.pin(5, 5));
        Due.is("pin(-1, 0)", -2, x.pin(-1, 0));
        Due.is("pin(0, -1)", -2, x.pin(0, -1));
        Due.is("pin(6, 0)", -2, x.pin(6, 0));
        Due.is("pin(0, 6)", -2, x.pin(0, 6));
        Due.is("pin(MIN, MAX)", -2, x.pin(Integer.MIN_VALUE, Integer.MAX_VALUE));
        Due.is("count(0)", 3, x.count(0));
        Due.is("a pin comes free", 0, x.pinTold(2, 2));
        Due.is("count(1)", 3, x.count(1));
    }

    private static RodBench sixPins() {
        RodBench x = new RodBench();
        for (int i = 0; i < 6; i++) {
            Due.is("pin(" + i + ", 1)", i, x.pin(i, 1));
        }
        return x;
    }

    private static void pinFull() {
        RodBench x = sixPins();
        Due.is("a seventh", -4, x.pin(0, 0));
        Due.is("a seventh, BAD first", -2, x.pin(0, 6));
        Due.is("a seventh, STATE first", -3, x.pin(3, 1));
        Due.is("count(0)", 6, x.count(0));
    }

    private static void refusedPinChangesNothing() {
        RodBench x = sixPins();
        x.pin(0, 0);
        x.pin(3, 1);
        x.pin(9, 9);
        Due.is("count(0)", 6, x.count(0));
        Due.is("count(1)", 6, x.count(1));
        Due.is("count(4)", 12, x.count(4));
        Due.is("pinTold(3, 0)", 3, x.pinTold(3, 0));
    }

    private static void move() {
        RodBench x = new RodBench();
        x.pin(1, 2);
        x.pin(3, 4);
        Due.is("move(0, 5, 0)", 1, x.move(0, 5, 0));
        Due.is("its x", 5, x.pinTold(0, 0));
        Due.is("its y", 0, x.pinTold(0, 1));
        Due.is("its own place", 1, x.move(0, 5, 0));
        Due.is("another's place", -3, x.move(0, 3, 4));
        Due.is("the old place is empty", 2, x.pin(1, 2));
        Due.is("move(-1, 0, 0)", -2, x.move(-1, 0, 0));
        Due.is("move(3, 0, 0)", -2, x.move(3, 0, 0));
        Due.is("move(0, -1, 0)", -2, x.move(0, -1, 0));
        Due.is("move(0, 6, 0)", -2, x.move(0, 6, 0));
        Due.is("move(0, 0, -1)", -2, x.move(0, 0, -1));
        Due.is("move(0, 0, 6)", -2, x.move(0, 0, 6));
        Due.is("move(3, 3, 4): BAD first", -2, x.move(3, 3, 4));
        Due.is("its x still", 5, x.pinTold(0, 0));
        Due.is("its y still", 0, x.pinTold(0, 1));
    }

    private static void moveTurnsTheFrame() {
        RodBench x = new RodBench();
        x.pin(0, 0);
        x.pin(2, 0);
        x.pin(4, 0);
        x.rod(0, 0, 1, 0);
        x.rod(0, 1, 2, 0);
        x.rod(0, 2, 0, 0);
        Due.is("on a line: stiff()", 0, x.stiff());
        Due.is("on a line: count(5)", 1, x.count(5));
        x.move(1, 2, 3);
        Due.is("a triangle: stiff()", 1, x.stiff());
        Due.is("a triangle: count(5)", 0, x.count(5));
        x.move(1, 3, 0);
        Due.is("on a line again: stiff()", 0, x.stiff());
    }

    private static void hold() {
        RodBench x = new RodBench();
        x.pin(1, 1);
        x.pin(2, 2);
        Due.is("hold(1, false)", 0, x.hold(1, false));
        Due.is("hold(1, true)", 1, x.hold(1, true));
        Due.is("hold(1, true) again", 0, x.hold(1, true));
        Due.is("pinTold(1, 2)", 1, x.pinTold(1, 2));
        Due.is("pinTold(0, 2)", 0, x.pinTold(0, 2));
        Due.is("count(1)", 1, x.count(1));
        Due.is("count(4)", 2, x.count(4));
        Due.is("hold(1, false)", 1, x.hold(1, false));
        Due.is("count(1)", 2, x.count(1));
        Due.is("count(4)", 4, x.count(4));
        Due.is("hold(-1, true)", -2, x.hold(-1, true));
        Due.is("hold(2, true)", -2, x.hold(2, true));
        Due.is("hold(2, false)", -2, x.hold(2, false));
    }

    private static void holdFreesTheForce() {
        RodBench x = new RodBench();
        x.pin(1, 1);
        x.load(0, 7, -8);
        Due.is("hold(0, false) leaves the force", 0, x.hold(0, false));
        Due.is("its x", 7, x.pinTold(0, 4));
        Due.is("its y", -8, x.pinTold(0, 5));
        Due.is("carry()", 0, x.carry());
        x.hold(0, true);
        Due.is("held: its x", 0, x.pinTold(0, 4));
        Due.is("held: its y", 0, x.pinTold(0, 5));
        Due.is("held: carry()", 1, x.carry());
        x.hold(0, false);
        Due.is("free again: its x", 0, x.pinTold(0, 4));
        Due.is("free again: its y", 0, x.pinTold(0, 5));
        Due.is("free again: carry()", 1, x.carry());
    }

    private static void pinTold() {
        RodBench x = new RodBench();
        x.pin(4, 3);
        x.pin(0, 5);
        x.pin(2, 2);
        x.rod(0, 0, 1, 0);
        x.rod(3, 2, 0, 5);
        x.rod(4, 1, 2, 0);
        Due.is("pinTold(0, 0)", 4, x.pinTold(0, 0));
        Due.is("pinTold(0, 1)", 3, x.pinTold(0, 1));
        Due.is("pinTold(0, 3)", 1, x.pinTold(0, 3));
        Due.is("pinTold(2, 3)", 0, x.pinTold(2, 3));
        x.put(1, true);
        Due.is("pinTold(0, 3), two in", 2, x.pinTold(0, 3));
        Due.is("pinTold(1, 3), two in", 1, x.pinTold(1, 3));
        Due.is("pinTold(2, 3), two in", 1, x.pinTold(2, 3));
        x.put(1, false);
        Due.is("pinTold(2, 3), one in", 0, x.pinTold(2, 3));
        Due.is("pinTold(0, 4)", 0, x.pinTold(0, 4));
        Due.is("pinTold(0, 5)", 0, x.pinTold(0, 5));
        Due.is("pinTold(0, 6)", -2, x.pinTold(0, 6));
        Due.is("pinTold(0, -1)", -2, x.pinTold(0, -1));
        Due.is("pinTold(3, 0)", -2, x.pinTold(3, 0));
        Due.is("pinTold(-1, 0)", -2, x.pinTold(-1, 0));
    }

    private static void load() {
        RodBench x = new RodBench();
        x.pin(4, 3);
        x.pin(0, 5);
        x.hold(1, true);
        Due.is("load(0, 20, -20)", 1, x.load(0, 20, -20));
        Due.is("pinTold(0, 4)", 20, x.pinTold(0, 4));
        Due.is("pinTold(0, 5)", -20, x.pinTold(0, 5));
        Due.is("load(0, -20, 20)", 1, x.load(0, -20, 20));
        Due.is("load(0, -20, 20) again", 1, x.load(0, -20, 20));
        Due.is("load(0, 21, 0)", -2, x.load(0, 21, 0));
        Due.is("load(0, -21, 0)", -2, x.load(0, -21, 0));
        Due.is("load(0, 0, 21)", -2, x.load(0, 0, 21));
        Due.is("load(0, 0, -21)", -2, x.load(0, 0, -21));
        Due.is("load(0, MIN, 0)", -2, x.load(0, Integer.MIN_VALUE, 0));
        Due.is("load(-1, 0, 0)", -2, x.load(-1, 0, 0));
        Due.is("load(2, 0, 0)", -2, x.load(2, 0, 0));
        Due.is("load of a held one", -3, x.load(1, 0, 0));
        Due.is("load of a held one, BAD first", -2, x.load(1, 0, 21));
        Due.is("pinTold(0, 4) still", -20, x.pinTold(0, 4));
        Due.is("pinTold(0, 5) still", 20, x.pinTold(0, 5));
        Due.is("pinTold(1, 4)", 0, x.pinTold(1, 4));
        x.move(0, 1, 1);
        Due.is("the force goes with the pin", -20, x.pinTold(0, 4));
    }

    private static void objectsAreApart() {
        RodBench x = new RodBench();
        RodBench y = new RodBench();
        x.pin(1, 1);
        Due.is("another object has no pin", 0, y.count(0));
        y.tray(9, 9, 9);
        Due.is("another object's status", 0, x.status());
    }
}
