/** Promises 22 to 24: the trays, what the host does with their things, and the status. */
public final class TraysTest {
    private TraysTest() {
    }

    public static void main(String[] args) {
        trayNumbers();
        refusedTrayKeepsItsThing();
        forgeNumbers();
        takenForARod();
        motionNumbers();
        prices();
        truths();
        thingsStayAsTheyWere();
        newRow();
        copied();
        copiedFromNone();
        laidAmongSpares();
        divided();
        thrown();
        otherKinds();
        statusIsOfTheLatest();
        Due.end();
    }

    /** Four pins, one of them held, and a rod of each kind. */
    private static RodBench bench() {
        RodBench x = new RodBench();
        x.pin(0, 0);
        x.pin(2, 0);
        x.pin(4, 3);
        x.pin(0, 5);
        x.hold(1, true);
        x.rod(0, 2, 0, 0);
        x.rod(1, 1, 0, 0);
        x.rod(2, 3, 0, 0);
        x.rod(3, 2, 1, 70);
        x.rod(4, 3, 1, 0);
        return x;
    }

    private static void tray(RodBench x, int tray, int what, int n, int answer, int status) {
        String call = "tray(" + tray + ", " + what + ", " + n + ")";
        Due.is(call, answer, x.tray(tray, what, n));
        Due.is("status() behind " + call, status, x.status());
    }

    private static void forge(RodBench x, int tray, int what, int n, int answer, int status) {
        String call = "forge(" + tray + ", " + what + ", " + n + ")";
        Due.is(call, answer, x.forge(tray, what, n));
        Due.is("status() behind " + call, status, x.status());
    }

    private static void trayNumbers() {
        RodBench x = bench();
        for (int tray = 0; tray < 6; tray++) {
            tray(x, tray, 1, tray % 5, 1, 0);
        }
        tray(x, -1, 0, 0, -1, 1);
        tray(x, 6, 0, 0, -1, 1);
        tray(x, 0, -1, 0, -1, 1);
        tray(x, 0, 5, 0, -1, 1);
        tray(x, 0, 1, -1, -1, 1);
        tray(x, 0, 1, 5, -1, 1);
        Due.is("count(4)", 3, x.count(4));
        tray(x, 0, 2, 2, 1, 0);
        tray(x, 0, 2, 3, -1, 1);
        tray(x, 0, 2, -1, -1, 1);
        tray(x, 0, 0, -7, 1, 0);
        tray(x, 0, 3, Integer.MAX_VALUE, 1, 0);
        tray(x, 0, 4, Integer.MIN_VALUE, 1, 0);
        RodBench empty = new RodBench();
        tray(empty, 5, 1, 0, -1, 1);
        tray(empty, 5, 2, 0, -1, 1);
        tray(empty, 5, 3, 0, 1, 0);
        tray(empty, 5, 4, 0, 1, 0);
    }

    private static void refusedTrayKeepsItsThing() {
        RodBench x = bench();
        tray(x, 2, 1, 0, 1, 0);
        tray(x, 2, 1, 5, -1, 1);
        tray(x, 2, 5, 0, -1, 1);
        tray(x, 2, 2, 9, -1, 1);
        forge(x, 2, 0, 0, 2, 0);
        tray(x, 2, 0, 0, 1, 0);
        forge(x, 2, 0, 0, -1, 10);
    }

    private static void forgeNumbers() {
        RodBench x = bench();
        tray(x, 0, 1, 0, 1, 0);
        forge(x, -1, 4, 1, -1, 1);
        forge(x, 6, 4, 1, -1, 1);
        forge(x, 6, 8, 1, -1, 1);
        forge(x, 0, -1, 1, -1, 1);
        forge(x, 0, 9, 1, -1, 1);
        forge(x, 0, 4, 101, -1, 1);
        forge(x, 0, 4, -101, -1, 1);
        forge(x, 0, 8, 101, -1, 1);
        forge(x, 0, 7, Integer.MIN_VALUE, -1, 1);
        forge(x, 0, 4, 100, 100, 0);
        forge(x, 5, 4, -100, -1, 13);
    }

    private static void takenForARod() {
        RodBench x = bench();
        int[] firstPins = {2, 1, 3, 2, 3};
        boolean[][] fits = {
            {true, false, false, false, false},
            {true, true, false, false, false},
            {true, false, true, false, false},
            {true, false, false, true, false},
            {true, false, false, true, true}};
        for (int rod = 0; rod < 5; rod++) {
            tray(x, rod, 1, rod, 1, 0);
            for (int n = -100; n <= 100; n += 1) {
                int kind = ((n % 5) + 5) % 5;
                boolean fit = fits[rod][kind];
                forge(x, rod, 0, n, fit ? firstPins[rod] : -1, fit ? 0 : 11);
            }
        }
        for (int kind = 0; kind < 5; kind++) {
            forge(x, 5, 0, kind, -1, 10);
        }
    }

    private static void motionNumbers() {
        RodBench x = new RodBench();
        x.pin(0, 0);
        x.pin(2, 3);
        x.pin(5, 5);
        x.hold(2, true);
        x.rod(0, 0, 1, 0);
        tray(x, 0, 2, 0, 1, 0);
        // -3 2 0 0 and two noughts of the held pin
        forge(x, 0, 1, 0, 4, 0);
        forge(x, 0, 1, -3, 1, 0);
        forge(x, 0, 1, 2, 1, 0);
        forge(x, 0, 1, 3, 0, 0);
        forge(x, 0, 1, 100, 0, 0);
        tray(x, 0, 2, 2, 1, 0);
        // 3 0 0 2
        forge(x, 0, 1, 3, 1, 0);
        forge(x, 0, 1, -3, 0, 0);
        forge(x, 1, 1, 0, -1, 10);
        x.hold(2, false);
        tray(x, 0, 2, 3, 1, 0);
        tray(x, 1, 2, 4, 1, 0);
        for (int tray = 0; tray < 2; tray++) {
            forge(x, tray, 1, 1, 1, 0);
            forge(x, tray, 1, 0, 5, 0);
        }
    }

    private static void prices() {
        RodBench x = bench();
        tray(x, 1, 3, 0, 1, 0);
        int[] due = {0, 0, 0, 70, 0};
        for (int n = 0; n < 5; n++) {
            forge(x, 1, 2, n, due[n], 0);
        }
        forge(x, 1, 2, 5, -1, 12);
        forge(x, 1, 2, -1, -1, 12);
        forge(x, 1, 2, 100, -1, 12);
        forge(x, 0, 2, 0, -1, 10);
        forge(x, 0, 2, -1, -1, 10);
    }

    private static void truths() {
        RodBench x = bench();
        x.put(4, true);
        tray(x, 4, 4, 0, 1, 0);
        int[] due = {1, 1, 1, 0, 1};
        for (int n = 0; n < 5; n++) {
            forge(x, 4, 3, n, due[n], 0);
        }
        forge(x, 4, 3, 5, -1, 12);
        forge(x, 4, 3, -1, -1, 12);
        forge(x, 0, 3, 0, -1, 10);
        forge(x, 0, 3, 77, -1, 10);
    }

    private static void thingsStayAsTheyWere() {
        RodBench x = new RodBench();
        x.pin(0, 0);
        x.pin(2, 3);
        x.rod(3, 0, 1, 6);
        tray(x, 0, 4, 0, 1, 0);
        tray(x, 1, 3, 0, 1, 0);
        tray(x, 2, 2, 0, 1, 0);
        tray(x, 3, 1, 0, 1, 0);
        x.put(0, true);
        x.pin(5, 5);
        x.rod(3, 1, 2, 9);
        forge(x, 0, 3, 0, 0, 0);
        forge(x, 0, 3, 1, -1, 12);
        forge(x, 1, 2, 1, -1, 12);
        forge(x, 2, 1, 0, 3, 0);
        forge(x, 3, 6, 0, 6, 0);
        forge(x, 3, 0, 3, 0, 0);
    }

    private static void newRow() {
        RodBench x = bench();
        for (int tray = 0; tray < 6; tray++) {
            forge(x, tray, 4, 0, 0, 0);
            forge(x, tray, 4, 1, 1, 0);
            forge(x, tray, 4, 99, 99, 0);
            forge(x, tray, 4, -1, -1, 13);
        }
        forge(x, 0, 0, 0, -1, 10);
    }

    private static void copied() {
        RodBench x = new RodBench();
        int[][] places = {{0, 0}, {5, 1}, {4, 5}, {1, 4}, {2, 2}, {3, 0}};
        for (int[] place : places) {
            x.pin(place[0], place[1]);
        }
        int[] sums = {0, 2, 6, 14, 30};
        for (int rod = 0; rod < 4; rod++) {
            x.rod(3, 0, rod + 1, 1 << rod);
        }
        tray(x, 0, 3, 0, 1, 0);
        for (int n = 0; n <= 3; n++) {
            forge(x, 0, 5, n, sums[n], 0);
        }
        forge(x, 0, 5, 4, -1, 12);
        forge(x, 0, 5, -1, -1, 12);
        forge(x, 0, 5, -100, -1, 12);
        x.rod(3, 0, 5, 16);
        x.rod(3, 1, 2, 32);
        x.rod(3, 1, 3, 64);
        tray(x, 0, 3, 0, 1, 0);
        // five stand in the prices, but from place 5 on not in the row of 9
        forge(x, 0, 5, 4, 30, 0);
        forge(x, 0, 5, 5, -1, 12);
        forge(x, 0, 5, 9, -1, 12);
        forge(x, 0, 5, 100, -1, 12);
        forge(x, 1, 5, 0, -1, 10);
        forge(x, 1, 5, -1, -1, 10);
    }

    private static void copiedFromNone() {
        RodBench x = new RodBench();
        tray(x, 0, 3, 0, 1, 0);
        for (int n = -1; n <= 5; n++) {
            forge(x, 0, 5, n, -1, 12);
        }
        x.pin(0, 0);
        x.pin(0, 1);
        x.rod(3, 0, 1, 5);
        tray(x, 0, 3, 0, 1, 0);
        forge(x, 0, 5, 0, 0, 0);
        forge(x, 0, 5, 1, -1, 12);
    }

    private static void laidAmongSpares() {
        RodBench x = bench();
        int[] due = {-1, -1, -1, 70, 0};
        for (int rod = 0; rod < 5; rod++) {
            tray(x, 0, 1, rod, 1, 0);
            forge(x, 0, 6, rod, due[rod], due[rod] < 0 ? 14 : 0);
        }
        for (int what = 2; what < 5; what++) {
            tray(x, 0, what, 0, 1, 0);
            forge(x, 0, 6, 0, -1, 14);
        }
        tray(x, 0, 0, 0, 1, 0);
        forge(x, 0, 6, 0, 0, 0);
    }

    private static void divided() {
        RodBench x = bench();
        int[][] due = {{1, 1000}, {-1, -1000}, {3, 333}, {-3, -333}, {7, 142}, {-7, -142}, {100, 10}, {-100, -10}};
        for (int[] pair : due) {
            forge(x, 3, 7, pair[0], pair[1], 0);
        }
        forge(x, 3, 7, 0, -1, 15);
        tray(x, 3, 1, 0, 1, 0);
        forge(x, 3, 7, 0, -1, 15);
        forge(x, 3, 7, 2, 500, 0);
    }

    private static void thrown() {
        RodBench x = bench();
        forge(x, 0, 8, 0, -1, 10);
        tray(x, 0, 1, 0, 1, 0);
        forge(x, 0, 8, 5, -1, 10);
    }

    /** Each thing, taken for what it is not. */
    private static void otherKinds() {
        RodBench x = bench();
        tray(x, 1, 1, 3, 1, 0);
        tray(x, 2, 2, 0, 1, 0);
        tray(x, 3, 3, 0, 1, 0);
        tray(x, 4, 4, 0, 1, 0);
        int[] rightFor = {1, 2, 3, 4, 0, 3};
        for (int tray = 1; tray <= 4; tray++) {
            for (int what : new int[] {0, 1, 2, 3, 5}) {
                if (rightFor[what] != tray) {
                    forge(x, tray, what, 0, -1, 11);
                    forge(x, tray, what, -1, -1, 11);
                }
            }
        }
    }

    private static void statusIsOfTheLatest() {
        RodBench x = bench();
        Due.is("status() at first", 0, x.status());
        forge(x, 0, 7, 0, -1, 15);
        x.pin(9, 9);
        x.count(4);
        x.pin(3, 3);
        Due.is("status() behind other calls", 15, x.status());
        Due.is("status() again", 15, x.status());
        tray(x, 0, 0, 0, 1, 0);
    }
}
