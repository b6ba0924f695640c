import java.util.ArrayList;
import java.util.List;
import java.util.function.Consumer;
import java.util.function.ToLongFunction;

/**
 * 'An object is used for at most 512 calls after it has been made', and what holds for a whole run:
 * refused calls and calls that only ask change nothing, and objects are apart.
 */
public final class RunEdgesTest {
    private static final int CALLS = 512;

    private RunEdgesTest() {
    }

    public static void main(String[] args) {
        theLastCallOfAllIsRight();
        the512thIsAsTheFirst();
        changesAllThrough();
        refusedAllThrough();
        fullAllThrough();
        askingChangesNothing();
        askedInAnyOrder();
        objectsInTurns();
        constants();
        Due.end();
    }

    /** The few take 19 calls; counts fill up to the 511th, and the 512th is each call in turn. */
    private static void theLastCallOfAllIsRight() {
        last("pin(5, 5)", 4, x -> x.pin(5, 5));
        last("pin(0, 6)", -2, x -> x.pin(0, 6));
        last("move(1, 5, 0)", 1, x -> x.move(1, 5, 0));
        last("hold(1, false)", 1, x -> x.hold(1, false));
        last("rod(3, 1, 3, 1000)", 5, x -> x.rod(3, 1, 3, 1000));
        last("rod(0, 1, 0, 0)", -3, x -> x.rod(0, 1, 0, 0));
        last("put(3, true)", 1, x -> x.put(3, true));
        last("count(4)", 2, x -> x.count(4));
        last("pinTold(3, 5)", 20, x -> x.pinTold(3, 5));
        last("rodTold(3, 3)", 70, x -> x.rodTold(3, 3));
        last("motion(0, 0, 1)", 4, x -> x.motion(0, 0, 1));
        last("stress(0, 0)", RodBench.NO, x -> x.stress(0, 0));
        last("stiff()", 0, RodBench::stiff);
        last("tight()", -1, RodBench::tight);
        last("load(0, 20, 20)", 1, x -> x.load(0, 20, 20));
        last("carry()", 0, RodBench::carry);
        last("force(0, 0)", RodBench.NO, x -> x.force(0, 0));
        last("gives()", 0, RodBench::gives);
        last("could()", 0, RodBench::could);
        last("body(0, 2)", 2, x -> x.body(0, 2));
        last("plan(0)", 3, x -> x.plan(0));
        last("cheapest()", 70, RodBench::cheapest);
        last("tray(0, 2, 1)", 1, x -> x.tray(0, 2, 1));
        last("forge(3, 2, 3)", 70, x -> x.forge(3, 2, 3));
        last("status()", 15, RodBench::status);
    }

    private static void last(String call, long due, ToLongFunction<RodBench> asked) {
        RodBench x = new RodBench();
        Edges.few(x);
        for (int calls = 19; calls < CALLS - 1; calls++) {
            x.count(calls % 10);
        }
        Due.is("as the 512th: " + call, due, asked.applyAsLong(x));
        RodBench y = new RodBench();
        Edges.few(y);
        Due.is("as the first: " + call, due, asked.applyAsLong(y));
    }

    /** 500 calls that end where they began; then the object answers as one that has had none of them. */
    private static void the512thIsAsTheFirst() {
        Consumer<RodBench> much = x -> {
            for (int i = 0; i < 25; i++) {
                x.put(3, true);
                x.put(3, false);
                x.move(0, 5, 5);
                x.move(0, 0, 0);
                x.load(2, i - 10, 10 - i);
                x.load(2, 0, 0);
                x.hold(2, true);
                x.hold(2, false);
            }
        };
        for (int ask = 0; ask < 12; ask++) {
            int asked = ask;
            RodBench x = new RodBench();
            Edges.few(x);
            RodBench y = new RodBench();
            Edges.few(y);
            much.accept(x);
            much.accept(x);
            for (int i = 0; i < 90; i++) {
                Due.is("after 419 calls: " + asked + ", " + i, mixed(y, asked, i), mixed(x, asked, i));
            }
        }
    }

    private static long mixed(RodBench x, int ask, int i) {
        switch (ask) {
            case 0: return x.count(i % 10);
            case 1: return x.pinTold(i / 6, i % 6);
            case 2: return x.rodTold(i / 7, i % 7);
            case 3: return x.motion(i / 12, i / 2 % 6, i % 2);
            case 4: return x.stress(i / 5, i % 5);
            case 5: return x.force(i / 2, i % 2);
            case 6: return x.body(i / 6, i % 6);
            case 7: return x.plan(i);
            case 8: return x.forge(1 + i / 18, i / 2 % 9, i % 2 == 0 ? 0 : i - 45);
            case 9: return i % 2 == 0 ? x.stiff() : x.tight();
            case 10: return i % 2 == 0 ? x.carry() : x.gives();
            default: return i % 2 == 0 ? x.could() : x.cheapest();
        }
    }

    /** Each second call changes something, up to the last. */
    private static void changesAllThrough() {
        RodBench x = new RodBench();
        Edges.full(x);
        int calls = 34;
        for (int turn = 0; calls + 8 <= CALLS; turn++) {
            int odd = turn % 2;
            Due.is("put(13, " + (odd == 1) + ")", 1, x.put(13, odd == 1));
            Due.is("rodTold(13, 4)", odd, x.rodTold(13, 4));
            Due.is("hold(4, " + (odd == 0) + ")", 1, x.hold(4, odd == 0));
            Due.is("pinTold(4, 2)", 1 - odd, x.pinTold(4, 2));
            Due.is("move(3, 1, " + (5 - odd) + ")", 1, x.move(3, 1, 5 - odd));
            Due.is("pinTold(3, 1)", 5 - odd, x.pinTold(3, 1));
            int force = turn % 41 - 20;
            Due.is("load(0, " + force + ", " + -force + ")", 1, x.load(0, force, -force));
            Due.is("pinTold(0, 4)", force, x.pinTold(0, 4));
            calls += 8;
        }
        Due.holds("so many calls: " + calls, calls > CALLS - 8);
    }

    /** 250 refused calls behind the few: nothing else is told than without them. */
    private static void refusedAllThrough() {
        Consumer<RodBench> many = x -> {
            Edges.few(x);
            for (int i = 0; i < 25; i++) {
                x.pin(6, i);
                x.pin(0, 0);
                x.move(4, 0, 0);
                x.move(0, 4, 3);
                x.hold(-1, true);
                x.rod(5, 1, 3, 0);
                x.rod(0, 0, 1, 0);
                x.put(0, i % 2 == 0);
                x.load(1, 1, 1);
                x.load(0, 21, i);
            }
        };
        RodBench x = new RodBench();
        many.accept(x);
        RodBench y = new RodBench();
        Edges.few(y);
        for (int ask = 0; ask < 12; ask++) {
            for (int i = 0; i < 20; i++) {
                Due.is("behind 250 refused ones: " + ask + ", " + i, mixed(y, ask, i), mixed(x, ask, i));
            }
        }
    }

    /** 'all full': six pins, fifteen rods, six trays; a pin more is FULL, and a rod more is STATE. */
    private static void fullAllThrough() {
        RodBench x = new RodBench();
        Edges.full(x);
        int calls = 34;
        while (calls + 4 <= CALLS) {
            Due.is("a pin more", -4, x.pin(5, 5));
            Due.is("a rod more", -3, x.rod(0, calls % 5, 5, 0));
            Due.is("count(0)", 6, x.count(0));
            Due.is("count(2)", 15, x.count(2));
            calls += 4;
        }
    }

    /** Each call that only asks, right or refused: all is told as without it. */
    private static void askingChangesNothing() {
        List<ToLongFunction<RodBench>> asking = new ArrayList<>();
        for (int i = -1; i <= 10; i++) {
            int n = i;
            asking.add(x -> x.count(n));
            asking.add(x -> x.pinTold(n, 3));
            asking.add(x -> x.pinTold(0, n));
            asking.add(x -> x.rodTold(n, 6));
            asking.add(x -> x.rodTold(0, n));
            asking.add(x -> x.motion(n, 0, 1));
            asking.add(x -> x.stress(n, 0));
            asking.add(x -> x.force(n, 0));
            asking.add(x -> x.body(n, 0));
            asking.add(x -> x.plan(n));
        }
        asking.add(RodBench::stiff);
        asking.add(RodBench::tight);
        asking.add(RodBench::carry);
        asking.add(RodBench::gives);
        asking.add(RodBench::could);
        asking.add(RodBench::cheapest);
        asking.add(RodBench::status);
        List<Consumer<RodBench>> frames = List.of(Edges::empty, Edges::few, Edges::sixPins, Edges::full);
        for (int frame = 0; frame < frames.size(); frame++) {
            Consumer<RodBench> made = frames.get(frame);
            String before = Telling.all(made, true);
            String behind = Telling.all(x -> {
                made.accept(x);
                for (ToLongFunction<RodBench> call : asking) {
                    call.applyAsLong(x);
                }
            }, true);
            Due.holds("asking changes nothing in frame " + frame, before.equals(behind));
        }
    }

    /** What is asked first, last or again gets the same answer. */
    private static void askedInAnyOrder() {
        for (int ask = 0; ask < 12; ask++) {
            RodBench x = new RodBench();
            Edges.full(x);
            RodBench y = new RodBench();
            Edges.full(y);
            long[] told = new long[90];
            for (int i = 0; i < 90; i++) {
                told[i] = mixed(x, ask, i);
            }
            for (int i = 89; i >= 0; i--) {
                Due.is("the other way round: " + ask + ", " + i, told[i], mixed(y, ask, i));
                Due.is("again: " + ask + ", " + i, told[i], mixed(x, ask, i));
            }
        }
    }

    private static void objectsInTurns() {
        RodBench x = new RodBench();
        RodBench y = new RodBench();
        for (int i = 0; i < 6; i++) {
            Due.is("the one's pin", i, x.pin(i, 0));
            Due.is("the other's pin", i, y.pin(0, i));
            if (i > 0) {
                Due.is("the one's rod", i - 1, x.rod(0, i - 1, i, 0));
                Due.is("the other's rod", i - 1, y.rod(3, i, i - 1, i));
            }
        }
        Due.is("the one's count(3)", 5, x.count(3));
        Due.is("the other's count(3)", 0, y.count(3));
        x.tray(0, 1, 0);
        y.forge(0, 0, 0);
        Due.is("the one's status()", 0, x.status());
        Due.is("the other's status()", 10, y.status());
        x.load(0, 1, 0);
        Due.is("the one's carry()", 0, x.carry());
        Due.is("the other's carry()", 1, y.carry());
    }

    /** 'NONE is -1; NO, where a long is answered', and the refusals as numbers. */
    private static void constants() {
        long[] due = {-1, -2, -3, -4, -4611686018427387904L};
        long[] told = {RodBench.NONE, RodBench.BAD, RodBench.STATE, RodBench.FULL, RodBench.NO};
        RodBench x = new RodBench();
        x.pin(0, 0);
        long[] answered = {x.plan(0), x.pin(6, 0), x.pin(0, 0), 0, x.motion(2, 0, 0)};
        for (int i = 1; i < 6; i++) {
            x.pin(i, 0);
        }
        answered[3] = x.pin(0, 1);
        for (int i = 0; i < due.length; i++) {
            Due.is("constant " + i, due[i], told[i]);
            Due.is("constant " + i + " as it is answered", due[i], answered[i]);
        }
        Due.is("NO is the contrary of two to the 62nd", -(1L << 62), RodBench.NO);
    }
}
