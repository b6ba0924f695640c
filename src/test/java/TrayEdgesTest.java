import java.util.function.Consumer;

/**
 * The sentences about trays, and about what the host does with their things, that name an edge, one
 * test each: promises 22 to 24, and section 5.
 */
public final class TrayEdgesTest {
    private static final int MIN = Integer.MIN_VALUE;
    private static final int MAX = Integer.MAX_VALUE;

    private TrayEdgesTest() {
    }

    public static void main(String[] args) {
        nothingAtFirst();
        traysAre0To5();
        traysAreApart();
        trayWhatOutside();
        trayOfARodThatIsNone();
        trayOfAMotionThatIsNone();
        nDoesNotMatter();
        refusedTrayKeepsItsThing();
        forgeOutside();
        noneSuchComesFirst();
        kindModulo5();
        nothingIsTakenForAnything();
        somethingElseIsOfAnotherKind();
        howManyAre();
        priceOfARod();
        truthOfARod();
        emptyRowsHaveNoPlace();
        rowOfNInts();
        copyOfNPrices();
        copyOfNoPrices();
        laidAmongSparesAndGifts();
        thousandDivided();
        failureThatIsNone();
        firstReasonOfSeveral();
        statusIsOfTheLatest();
        statusOfRefusedForges();
        thingsStayAsTheyWere();
        Due.end();
    }

    private static RodBench fewThings() {
        RodBench x = new RodBench();
        Edges.few(x);
        return x;
    }

    private static void tray(RodBench x, int tray, int what, int n, int answer, int status) {
        String call = "tray(" + tray + ", " + what + ", " + n + ")";
        Due.is(call, answer, x.tray(tray, what, n));
        Due.is("status() behind " + call, status, x.status());
    }

    private static void forge(RodBench x, int tray, int what, int n, int answer, int status) {
        String call = "forge(" + tray + ", " + what + ", " + n + ")";
        Due.is(call, answer, x.forge(tray, what, n));
        Due.is("status() behind " + call, status, x.status());
    }

    private static void refusedTray(Consumer<RodBench> frame, int tray, int what, int n) {
        Telling.refusedByTray("tray(" + tray + ", " + what + ", " + n + ")", 1, frame, x -> x.tray(tray, what, n));
    }

    private static void refusedForge(Consumer<RodBench> frame, int tray, int what, int n, int status) {
        Telling.refusedByTray("forge(" + tray + ", " + what + ", " + n + ")", status, frame,
            x -> x.forge(tray, what, n));
    }

    private static void nothingAtFirst() {
        Due.is("status() of a new one", 0, new RodBench().status());
        for (int tray = 0; tray < 6; tray++) {
            RodBench x = new RodBench();
            forge(x, tray, 0, 0, -1, 10);
            forge(x, tray, 1, 0, -1, 10);
            forge(x, tray, 2, 0, -1, 10);
            forge(x, tray, 3, 0, -1, 10);
            forge(x, tray, 5, 0, -1, 10);
            forge(x, tray, 6, 0, 0, 0);
        }
    }

    private static void traysAre0To5() {
        for (int tray = -2; tray <= 8; tray++) {
            boolean inside = 0 <= tray && tray <= 5;
            for (int what = 0; what < 5; what++) {
                RodBench x = fewThings();
                tray(x, tray, what, 0, inside ? 1 : -1, inside ? 0 : 1);
                forge(x, tray, 4, 3, inside ? 3 : -1, inside ? 0 : 1);
            }
        }
        for (int far : Edges.outside(0, 5)) {
            for (int what = 0; what < 5; what++) {
                refusedTray(Edges::few, far, what, 0);
            }
            for (int what = 0; what < 9; what++) {
                refusedForge(Edges::few, far, what, 1, 1);
            }
        }
    }

    private static void traysAreApart() {
        RodBench x = fewThings();
        for (int tray = 0; tray < 6; tray++) {
            tray(x, tray, 1, tray % 5, 1, 0);
        }
        int[] firstPins = {0, 2, 2, 3, 0, 0};
        for (int tray = 0; tray < 6; tray++) {
            forge(x, tray, 0, 0, firstPins[tray], 0);
        }
        for (int tray = 0; tray < 6; tray++) {
            tray(x, tray, 0, 0, 1, 0);
            for (int other = 0; other < 6; other++) {
                boolean empty = other <= tray;
                forge(x, other, 0, 0, empty ? -1 : firstPins[other], empty ? 10 : 0);
            }
        }
    }

    private static void trayWhatOutside() {
        for (int far : Edges.outside(0, 4)) {
            refusedTray(Edges::few, 1, far, 0);
            refusedTray(Edges::empty, 5, far, 0);
        }
    }

    private static void trayOfARodThatIsNone() {
        for (int far : Edges.outside(0, 4)) {
            refusedTray(Edges::few, 2, 1, far);
        }
        for (int far : Edges.outside(0, 14)) {
            refusedTray(Edges::full, 2, 1, far);
        }
        for (int far : new int[] {0, 1, -1, MIN, MAX}) {
            refusedTray(Edges::empty, 0, 1, far);
        }
        RodBench x = new RodBench();
        Edges.full(x);
        tray(x, 5, 1, 14, 1, 0);
        forge(x, 5, 0, 0, 5, 0);
    }

    private static void trayOfAMotionThatIsNone() {
        for (int far : Edges.outside(0, 1)) {
            refusedTray(Edges::few, 3, 2, far);
        }
        for (int far : Edges.outside(0, 11)) {
            refusedTray(Edges::sixPins, 0, 2, far);
        }
        for (int far : new int[] {0, 1, -1, MIN, MAX}) {
            refusedTray(Edges::empty, 0, 2, far);
        }
        RodBench x = new RodBench();
        Edges.sixPins(x);
        tray(x, 0, 2, 11, 1, 0);
        forge(x, 0, 1, 1, 1, 0);
        for (int pin = 0; pin < 6; pin++) {
            x.hold(pin, true);
        }
        tray(x, 0, 2, 0, -1, 1);
        forge(x, 0, 1, 0, 11, 0);
    }

    /** '3 prices, 4 truths (n does not matter)'; of nothing there is none to matter. */
    private static void nDoesNotMatter() {
        for (int n : new int[] {0, 1, -1, 5, 101, -101, MIN, MAX}) {
            RodBench x = fewThings();
            tray(x, 0, 3, n, 1, 0);
            forge(x, 0, 2, 3, 70, 0);
            tray(x, 0, 4, n, 1, 0);
            forge(x, 0, 3, 4, 1, 0);
            tray(x, 0, 0, n, 1, 0);
            forge(x, 0, 3, 4, -1, 10);
        }
    }

    private static void refusedTrayKeepsItsThing() {
        RodBench x = fewThings();
        int[][] refused = {{1, 5}, {1, -1}, {2, 2}, {2, -1}, {5, 0}, {-1, 0}};
        for (int[] call : refused) {
            tray(x, 1, call[0], call[1], -1, 1);
            forge(x, 1, 0, 0, 3, 0);
            tray(x, 3, call[0], call[1], -1, 1);
            forge(x, 3, 2, 3, 70, 0);
        }
    }

    /** 'STATUS 1: another; no such TRAY; n outside -100 .. 100', whatever the tray holds. */
    private static void forgeOutside() {
        for (int far : Edges.outside(0, 8)) {
            refusedForge(Edges::few, 1, far, 0, 1);
            refusedForge(Edges::empty, 0, far, 0, 1);
        }
        for (int what = 0; what < 9; what++) {
            for (int far : Edges.outside(-100, 100)) {
                refusedForge(Edges::few, what % 6, what, far, 1);
            }
        }
        RodBench x = fewThings();
        forge(x, 0, 4, 100, 100, 0);
        forge(x, 0, 4, 101, -1, 1);
        forge(x, 0, 4, -100, -1, 13);
        forge(x, 0, 4, -101, -1, 1);
    }

    /** A number that is none such, before all that the host would refuse. */
    private static void noneSuchComesFirst() {
        RodBench x = fewThings();
        forge(x, 6, 0, 0, -1, 1);
        forge(x, -1, 8, 0, -1, 1);
        forge(x, 0, 9, 0, -1, 1);
        forge(x, 0, 0, 101, -1, 1);
        forge(x, 0, 8, -101, -1, 1);
        forge(x, 3, 0, -101, -1, 1);
        forge(x, 3, 2, 101, -1, 1);
        forge(x, 0, 4, -101, -1, 1);
        forge(x, 6, 7, 0, -1, 1);
        forge(x, 3, 6, 101, -1, 1);
    }

    /** 'n modulo 5 (0 .. 4, also for n below 0)'. */
    private static void kindModulo5() {
        RodBench x = fewThings();
        int[][] kinds = {{-100, 0}, {-99, 1}, {-98, 2}, {-97, 3}, {-96, 4}, {-6, 4}, {-5, 0}, {-4, 1}, {-3, 2},
            {-2, 3}, {-1, 4}, {0, 0}, {1, 1}, {2, 2}, {3, 3}, {4, 4}, {5, 0}, {6, 1}, {9, 4}, {98, 3}, {99, 4},
            {100, 0}};
        boolean[][] fits = {{true, false, false, false, false}, {true, true, false, false, false},
            {true, false, true, false, false}, {true, false, false, true, false}, {true, false, false, true, true}};
        int[] firstPins = {0, 2, 2, 3, 0};
        for (int rod = 0; rod < 5; rod++) {
            x = fewThings();
            tray(x, rod, 1, rod, 1, 0);
            for (int[] pair : kinds) {
                boolean fit = fits[rod][pair[1]];
                forge(x, rod, 0, pair[0], fit ? firstPins[rod] : -1, fit ? 0 : 11);
            }
        }
    }

    private static void nothingIsTakenForAnything() {
        for (int n = -100; n <= 100; n++) {
            RodBench x = fewThings();
            forge(x, 0, 0, n, -1, 10);
            forge(x, 0, 1, n, -1, 10);
            forge(x, 0, 2, n, -1, 10);
            forge(x, 0, 3, n, -1, 10);
            forge(x, 0, 5, n, -1, 10);
            forge(x, 0, 6, n, 0, 0);
        }
    }

    /** Things 1 to 4 are taken for what they are not: 11, and nothing has changed. */
    private static void somethingElseIsOfAnotherKind() {
        int[] rightThing = {1, 2, 3, 4, 0, 3};
        for (int what : new int[] {0, 1, 2, 3, 5}) {
            for (int thing = 1; thing < 5; thing++) {
                if (rightThing[what] != thing) {
                    for (int n : new int[] {-100, -1, 0, 1, 100}) {
                        refusedForge(Edges::few, thing, what, n, 11);
                    }
                }
            }
        }
        for (int n : new int[] {-4, 1, 2, 4, 99}) {
            refusedForge(Edges::few, 1, 0, n, 11);
        }
    }

    /** The few's first motion is 0 4 0 0 3 0 3 0, the held pin's numbers among them. */
    private static void howManyAre() {
        RodBench x = fewThings();
        tray(x, 0, 2, 1, 1, 0);
        for (int n = -100; n <= 100; n++) {
            forge(x, 2, 1, n, n == 0 ? 5 : n == 3 ? 2 : n == 4 ? 1 : 0, 0);
        }
        forge(x, 0, 1, 0, 7, 0);
        forge(x, 0, 1, 1, 1, 0);
        RodBench y = new RodBench();
        Edges.sixPins(y);
        for (int i = 0; i < 12; i++) {
            tray(y, 0, 2, i, 1, 0);
            forge(y, 0, 1, 0, 11, 0);
            forge(y, 0, 1, 1, 1, 0);
        }
    }

    private static void priceOfARod() {
        RodBench x = fewThings();
        for (int n = -100; n <= 100; n++) {
            boolean inside = 0 <= n && n < 5;
            forge(x, 3, 2, n, inside ? n == 3 ? 70 : 0 : -1, inside ? 0 : 12);
        }
        for (int n : new int[] {-100, -1, 5, 6, 100}) {
            refusedForge(Edges::few, 3, 2, n, 12);
        }
        RodBench y = new RodBench();
        Edges.full(y);
        tray(y, 0, 3, 0, 1, 0);
        forge(y, 0, 2, 14, 0, 0);
        forge(y, 0, 2, 13, 987, 0);
        forge(y, 0, 2, 15, -1, 12);
    }

    private static void truthOfARod() {
        RodBench x = fewThings();
        for (int n = -100; n <= 100; n++) {
            boolean inside = 0 <= n && n < 5;
            forge(x, 4, 3, n, inside ? n == 3 ? 0 : 1 : -1, inside ? 0 : 12);
        }
        for (int n : new int[] {-100, -1, 5, 6, 100}) {
            refusedForge(Edges::few, 4, 3, n, 12);
        }
        RodBench y = new RodBench();
        Edges.full(y);
        tray(y, 0, 4, 0, 1, 0);
        forge(y, 0, 3, 13, 1, 0);
        forge(y, 0, 3, 14, 0, 0);
        forge(y, 0, 3, 15, -1, 12);
    }

    /** No rods yet: prices and truths are there, but have no place. */
    private static void emptyRowsHaveNoPlace() {
        RodBench x = new RodBench();
        tray(x, 0, 3, 0, 1, 0);
        tray(x, 5, 4, 0, 1, 0);
        for (int n : new int[] {-1, 0, 1}) {
            forge(x, 0, 2, n, -1, 12);
            forge(x, 5, 3, n, -1, 12);
            forge(x, 0, 3, n, -1, 11);
            forge(x, 5, 2, n, -1, 11);
        }
        forge(x, 0, 6, 0, -1, 14);
    }

    /** 'a row of n ints is made: 13; answers n', whatever the tray holds. */
    private static void rowOfNInts() {
        for (int tray = 0; tray < 6; tray++) {
            RodBench x = fewThings();
            for (int n = -100; n <= 100; n++) {
                forge(x, tray, 4, n, n < 0 ? -1 : n, n < 0 ? 13 : 0);
            }
        }
        refusedForge(Edges::few, 0, 4, -1, 13);
        refusedForge(Edges::few, 3, 4, -100, 13);
    }

    /** From none to fifteen prices: n of them from the second on, and in the row of 9 from place n on. */
    private static void copyOfNPrices() {
        int[] prices = {1000, 1, 20, 300, 1000, 999, 7, 7, 7, 7, 7, 7, 7, 7, 7};
        int[] sums = {0, 1, 21, 321, 1321};
        for (int rods = 0; rods <= 15; rods++) {
            RodBench x = new RodBench();
            Edges.sixPins(x);
            int made = 0;
            for (int a = 0; a < 6; a++) {
                for (int b = a + 1; b < 6 && made < rods; b++) {
                    x.rod(3, a, b, prices[made]);
                    made++;
                }
            }
            tray(x, 1, 3, 0, 1, 0);
            for (int n = -100; n <= 100; n++) {
                boolean stand = n >= 0 && n < rods && n <= 4;
                forge(x, 1, 5, n, stand ? sums[n] : -1, stand ? 0 : 12);
            }
        }
        for (int n : new int[] {-100, -1, 5, 6, 9, 100}) {
            refusedForge(Edges::few, 3, 5, n, 12);
        }
    }

    /** 'also of no prices, whatever n'. */
    private static void copyOfNoPrices() {
        RodBench x = new RodBench();
        tray(x, 0, 3, 0, 1, 0);
        for (int n = -100; n <= 100; n++) {
            forge(x, 0, 5, n, -1, 12);
        }
    }

    /** '14: it is another THING': a rod of kinds 0 to 2, a motion, prices, truths; nothing fits. */
    private static void laidAmongSparesAndGifts() {
        for (int rod = 0; rod < 5; rod++) {
            RodBench x = fewThings();
            tray(x, 0, 1, rod, 1, 0);
            for (int n : new int[] {-100, -1, 0, 1, 100}) {
                forge(x, 0, 6, n, rod < 3 ? -1 : rod == 3 ? 70 : 0, rod < 3 ? 14 : 0);
            }
        }
        for (int tray = 2; tray < 6; tray++) {
            refusedForge(Edges::few, tray, 6, 0, 14);
        }
        RodBench x = fewThings();
        forge(x, 0, 6, 5, 0, 0);
        x.rod(3, 1, 3, 1000);
        tray(x, 0, 1, 5, 1, 0);
        forge(x, 0, 6, 0, 1000, 0);
    }

    private static void thousandDivided() {
        RodBench x = fewThings();
        for (int n = 1; n <= 100; n++) {
            int due = 0;
            while ((due + 1) * n <= 1000) {
                due++;
            }
            forge(x, n % 6, 7, n, due, 0);
            forge(x, n % 6, 7, -n, -due, 0);
        }
        for (int tray = 0; tray < 6; tray++) {
            refusedForge(Edges::few, tray, 7, 0, 15);
        }
    }

    private static void failureThatIsNone() {
        for (int n = -100; n <= 100; n++) {
            RodBench x = fewThings();
            forge(x, (n + 102) % 6, 8, n, -1, 10);
        }
        for (int tray = 0; tray < 6; tray++) {
            refusedForge(Edges::few, tray, 8, 1, 10);
        }
    }

    /** Nothing before a place outside; another kind before a place outside, too. */
    private static void firstReasonOfSeveral() {
        for (int n : new int[] {-100, -1, 5, 99, 100}) {
            refusedForge(Edges::few, 0, 2, n, 10);
            refusedForge(Edges::few, 0, 3, n, 10);
            refusedForge(Edges::few, 0, 5, n, 10);
            refusedForge(Edges::few, 4, 2, n, 11);
            refusedForge(Edges::few, 3, 3, n, 11);
            refusedForge(Edges::few, 4, 5, n, 11);
        }
    }

    private static void statusIsOfTheLatest() {
        RodBench x = fewThings();
        Due.is("behind forge(0, 7, 0)", 15, x.status());
        x.pin(6, 6);
        x.pin(0, 0);
        x.move(0, 1, 1);
        x.hold(2, true);
        x.rod(0, 0, 3, 0);
        x.put(3, true);
        x.load(3, 21, 0);
        x.count(10);
        x.pinTold(9, 9);
        x.rodTold(9, 9);
        x.motion(9, 9, 9);
        x.stress(9, 9);
        x.stiff();
        x.tight();
        x.carry();
        x.force(9, 9);
        x.gives();
        x.could();
        x.body(9, 9);
        x.plan(9);
        x.cheapest();
        Due.is("behind calls that have none", 15, x.status());
        Due.is("asked again", 15, x.status());
        tray(x, 0, 0, 0, 1, 0);
        tray(x, 6, 0, 0, -1, 1);
        forge(x, 0, 6, 0, 0, 0);
        forge(x, 0, 9, 0, -1, 1);
        tray(x, 0, 3, 0, 1, 0);
    }

    /** 10 to 15, each behind one that is done and behind another that is refused. */
    private static void statusOfRefusedForges() {
        int[][] calls = {{0, 0, 0, 10}, {2, 0, 0, 11}, {3, 2, 5, 12}, {0, 4, -1, 13}, {2, 6, 0, 14}, {0, 7, 0, 15},
            {0, 8, 0, 10}, {7, 0, 0, 1}};
        for (int[] first : calls) {
            for (int[] second : calls) {
                RodBench x = fewThings();
                forge(x, 0, 4, 0, 0, 0);
                forge(x, first[0], first[1], first[2], -1, first[3]);
                forge(x, second[0], second[1], second[2], -1, second[3]);
                forge(x, 0, 4, 1, 1, 0);
            }
        }
    }

    /** 'A TRAY holds' the motion, the prices, the truths as they were; a rod is the rod. */
    private static void thingsStayAsTheyWere() {
        RodBench x = fewThings();
        x.put(3, true);
        x.put(4, false);
        x.pin(5, 5);
        x.rod(3, 4, 0, 9);
        x.hold(3, true);
        x.move(0, 1, 1);
        forge(x, 2, 1, 0, 5, 0);
        forge(x, 2, 1, 3, 2, 0);
        forge(x, 3, 2, 3, 70, 0);
        forge(x, 3, 2, 5, -1, 12);
        forge(x, 4, 3, 3, 0, 0);
        forge(x, 4, 3, 4, 1, 0);
        forge(x, 4, 3, 5, -1, 12);
        forge(x, 1, 0, 3, 3, 0);
    }
}
