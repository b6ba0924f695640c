import java.util.ArrayList;
import java.util.List;

/** Numbers to try at the edges of what is allowed, and frames to try them on. */
final class Edges {
    private static final int[] FAR = {Integer.MIN_VALUE, Integer.MIN_VALUE + 1, -65_536, -256, -101, -21, -2,
        101, 1_001, Integer.MAX_VALUE - 1, Integer.MAX_VALUE};

    private Edges() {
    }

    /**
     * Ints that are not least .. most: the first ones on both sides, the smallest and the largest
     * int, and ints that would be inside if they were cut down to a short or a byte, or lost their
     * sign.
     */
    static int[] outside(int least, int most) {
        List<Integer> numbers = new ArrayList<>();
        addOutside(numbers, least - 1L, least, most);
        addOutside(numbers, most + 1L, least, most);
        for (int far : FAR) {
            addOutside(numbers, far, least, most);
        }
        addOutside(numbers, 65_536L + least, least, most);
        addOutside(numbers, 256L + most, least, most);
        addOutside(numbers, (long) Integer.MIN_VALUE + Math.max(most, 0), least, most);
        int[] row = new int[numbers.size()];
        for (int i = 0; i < row.length; i++) {
            row[i] = numbers.get(i);
        }
        return row;
    }

    private static void addOutside(List<Integer> numbers, long number, int least, int most) {
        boolean isInt = number >= Integer.MIN_VALUE && number <= Integer.MAX_VALUE;
        if (isInt && (number < least || number > most) && !numbers.contains((int) number)) {
            numbers.add((int) number);
        }
    }

    /** Nothing there yet. */
    static void empty(RodBench x) {
    }

    /**
     * Four pins at the corners of 4 by 3, one of them held, a rod of each kind (the gift is in, the
     * spare one out), forces, and a thing of each kind in trays 1 to 5.
     */
    static void few(RodBench x) {
        x.pin(0, 0);
        x.pin(4, 0);
        x.pin(4, 3);
        x.pin(0, 3);
        x.hold(1, true);
        x.rod(0, 0, 1, 0);
        x.rod(1, 2, 1, 0);
        x.rod(2, 2, 3, 0);
        x.rod(3, 3, 0, 70);
        x.rod(4, 0, 2, 0);
        x.put(4, true);
        x.load(0, 3, -4);
        x.load(3, 0, 20);
        x.tray(1, 1, 3);
        x.tray(2, 2, 0);
        x.tray(3, 3, 0);
        x.tray(4, 4, 0);
        x.tray(5, 1, 1);
        x.forge(0, 7, 0);
    }

    static final int[][] SIX_PLACES = {{0, 0}, {5, 1}, {4, 5}, {1, 4}, {2, 2}, {3, 0}};

    static void sixPins(RodBench x) {
        for (int[] place : SIX_PLACES) {
            x.pin(place[0], place[1]);
        }
    }

    /** Six pins, one of them held, and fifteen rods of all kinds; all that can be there is there. */
    static void full(RodBench x) {
        sixPins(x);
        int rod = 0;
        for (int a = 0; a < 6; a++) {
            for (int b = a + 1; b < 6; b++) {
                int kind = rod % 5;
                x.rod(kind, b, a, kind == 3 ? 1000 - rod : 0);
                rod++;
            }
        }
        x.put(4, true);
        x.put(13, true);
        x.hold(5, true);
        x.load(0, 20, -20);
        x.load(4, -1, 7);
        for (int tray = 0; tray < 6; tray++) {
            x.tray(tray, tray == 0 ? 4 : tray % 4 + 1, tray == 1 ? 0 : 14 - tray);
        }
        x.tray(1, 2, 0);
        x.forge(1, 5, 0);
    }
}
