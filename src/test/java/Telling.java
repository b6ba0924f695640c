import java.util.function.Consumer;
import java.util.function.ToLongFunction;

/**
 * All that an object tells, asked of several objects that were made alike, so that none of them
 * serves more than the 512 calls that the document asks of it.
 */
final class Telling {
    private static final int PARTS = 6;

    private Telling() {
    }

    /** That a call is refused, and all else that is told is the same as without it. */
    static void refused(String call, long due, Consumer<RodBench> frame, ToLongFunction<RodBench> asked) {
        changesNothing(call, due, frame, asked, true);
    }

    /** The same for tray() and forge(): their status is told, but nothing else has changed. */
    static void refusedByTray(String call, int status, Consumer<RodBench> frame, ToLongFunction<RodBench> asked) {
        RodBench x = new RodBench();
        frame.accept(x);
        Due.is(call, -1, asked.applyAsLong(x));
        Due.is("status() behind " + call, status, x.status());
        changesNothing(call, -1, frame, asked, false);
    }

    static void changesNothing(String call, long due, Consumer<RodBench> frame, ToLongFunction<RodBench> asked,
            boolean withStatus) {
        String without = all(frame, withStatus);
        String with = all(x -> {
            frame.accept(x);
            Due.is(call, due, asked.applyAsLong(x));
        }, withStatus);
        Due.holds(call + " changes nothing", without.equals(with));
    }

    static String all(Consumer<RodBench> frame, boolean withStatus) {
        StringBuilder told = new StringBuilder();
        for (int part = withStatus ? 0 : 1; part < PARTS; part++) {
            RodBench x = new RodBench();
            frame.accept(x);
            tell(x, part, told);
        }
        return told.toString();
    }

    private static void tell(RodBench x, int part, StringBuilder told) {
        switch (part) {
            case 0: put(told, x.status()); break;
            case 1: tellCounts(x, told); break;
            case 2: tellRods(x, told); break;
            case 3: tellMotions(x, told); break;
            case 4: tellStresses(x, told); break;
            default: tellTrays(x, told);
        }
    }

    private static void put(StringBuilder told, long number) {
        told.append(number).append(' ');
    }

    private static void tellCounts(RodBench x, StringBuilder told) {
        for (int what = 0; what < 10; what++) {
            put(told, x.count(what));
        }
        for (int pin = 0; pin < 6; pin++) {
            for (int what = 0; what < 6; what++) {
                put(told, x.pinTold(pin, what));
            }
        }
        put(told, x.stiff());
        put(told, x.tight());
        put(told, x.carry());
        put(told, x.gives());
        put(told, x.could());
        put(told, x.cheapest());
        for (int i = 0; i < 10; i++) {
            put(told, x.plan(i));
        }
    }

    private static void tellRods(RodBench x, StringBuilder told) {
        for (int rod = 0; rod < 15; rod++) {
            for (int what = 0; what < 7; what++) {
                put(told, x.rodTold(rod, what));
            }
            put(told, x.force(rod, 0));
            put(told, x.force(rod, 1));
        }
        for (int body = 0; body < 9; body++) {
            for (int i = 0; i < 6; i++) {
                put(told, x.body(body, i));
            }
        }
    }

    private static void tellMotions(RodBench x, StringBuilder told) {
        for (int i = 0; i < 12; i++) {
            for (int pin = 0; pin < 6; pin++) {
                put(told, x.motion(i, pin, 0));
                put(told, x.motion(i, pin, 1));
            }
        }
    }

    private static void tellStresses(RodBench x, StringBuilder told) {
        for (int i = 0; i < 15; i++) {
            for (int rod = 0; rod < 15; rod++) {
                put(told, x.stress(i, rod));
            }
        }
    }

    private static void tellTrays(RodBench x, StringBuilder told) {
        for (int tray = 0; tray < 6; tray++) {
            for (int kind = 0; kind < 5; kind++) {
                put(told, x.forge(tray, 0, kind));
                put(told, x.status());
            }
            for (int n = -2; n <= 2; n++) {
                put(told, x.forge(tray, 1, n));
            }
            for (int n = 0; n < 15; n++) {
                put(told, x.forge(tray, 2, n));
                put(told, x.forge(tray, 3, n));
            }
            put(told, x.forge(tray, 5, 4));
            put(told, x.forge(tray, 6, 0));
        }
    }
}
