import java.util.ArrayList;
import java.util.List;

/**
 * A bench for flat frames of pins and rods: motions, stresses, forces, bodies by counts and the
 * cheapest plan of spare rods, all in whole numbers. No call ever throws.
 */
public final class RodBench {
    public static final int NONE = -1, BAD = -2, STATE = -3, FULL = -4;
    public static final long NO = -4611686018427387904L;

    private static final int MOST_PINS = 6;
    private static final int MOST_RODS = 15;
    private static final int FARTHEST = 5;
    private static final int MOST_FORCE = 20;
    private static final int MOST_PRICE = 1000;

    private static final int ROD = 0;
    private static final int ROPE = 1;
    private static final int PROP = 2;
    private static final int SPARE = 3;
    private static final int GIFT = 4;
    private static final int KINDS = 5;

    private final Frame frame;
    private final Balance balance;
    private final Offers offers;
    private final Bodies bodies;
    private final Trays trays;

    public RodBench() {
        frame = new Frame();
        balance = new Balance(frame);
        offers = new Offers(frame);
        bodies = new Bodies(frame);
        trays = new Trays(frame, balance);
    }

    public int pin(int x, int y) {
        if (!isPlace(x, y)) {
            return BAD;
        }
        if (frame.pinAt(x, y) != null) {
            return STATE;
        }
        if (frame.pins.size() >= MOST_PINS) {
            return FULL;
        }
        frame.pins.add(new Pin(frame.pins.size(), x, y));
        renew();
        return frame.pins.size() - 1;
    }

    public int move(int pin, int x, int y) {
        if (!frame.isPin(pin) || !isPlace(x, y)) {
            return BAD;
        }
        Pin mover = frame.pins.get(pin);
        Pin there = frame.pinAt(x, y);
        if (there != null && there != mover) {
            return STATE;
        }
        mover.x = x;
        mover.y = y;
        renew();
        return 1;
    }

    public int hold(int pin, boolean held) {
        if (!frame.isPin(pin)) {
            return BAD;
        }
        Pin one = frame.pins.get(pin);
        if (one.held == held) {
            return 0;
        }
        one.held = held;
        one.forceX = 0;
        one.forceY = 0;
        renew();
        return 1;
    }

    public int rod(int kind, int a, int b, int price) {
        if (kind < 0 || kind >= KINDS || !isPriceOf(kind, price)) {
            return BAD;
        }
        if (!frame.isPin(a) || !frame.isPin(b) || a == b) {
            return BAD;
        }
        Pin first = frame.pins.get(a);
        Pin second = frame.pins.get(b);
        if (frame.areJoined(first, second)) {
            return STATE;
        }
        if (frame.rods.size() >= MOST_RODS) {
            return FULL;
        }
        frame.rods.add(new Rod(frame.rods.size(), kind, first, second, price));
        renew();
        return frame.rods.size() - 1;
    }

    public int put(int rod, boolean in) {
        if (!frame.isRod(rod)) {
            return BAD;
        }
        Rod one = frame.rods.get(rod);
        if (!one.isOf(SPARE)) {
            return BAD;
        }
        if (one.in == in) {
            return 0;
        }
        one.in = in;
        renew();
        return 1;
    }

    public int count(int what) {
        switch (what) {
            case 0: return frame.pins.size();
            case 1: return frame.freePins.size();
            case 2: return frame.rods.size();
            case 3: return frame.rodsIn.size();
            case 4: return balance.motionCount();
            case 5: return balance.stressCount();
            case 6: return 2 * frame.freePins.size() - balance.motionCount();
            case 7: return bodies.bodyCount();
            case 8: return bodies.surplus();
            case 9: return neededCount();
            default: return BAD;
        }
    }

    public int pinTold(int pin, int what) {
        if (!frame.isPin(pin)) {
            return BAD;
        }
        Pin one = frame.pins.get(pin);
        switch (what) {
            case 0: return one.x;
            case 1: return one.y;
            case 2: return one.held ? 1 : 0;
            case 3: return frame.rodsInAt(one);
            case 4: return one.forceX;
            case 5: return one.forceY;
            default: return BAD;
        }
    }

    public int rodTold(int rod, int what) {
        if (!frame.isRod(rod)) {
            return BAD;
        }
        Rod one = frame.rods.get(rod);
        switch (what) {
            case 0: return one.kind;
            case 1: return one.first.number;
            case 2: return one.second.number;
            case 3: return one.price;
            case 4: return one.in ? 1 : 0;
            case 5: return balance.isNeeded(one) ? 1 : 0;
            case 6: return bodies.leastBodyOf(one);
            default: return BAD;
        }
    }

    public long motion(int i, int pin, int what) {
        if (!frame.isPin(pin) || what < 0 || what > 1 || !balance.isMotion(i)) {
            return NO;
        }
        return balance.motionNumber(i, frame.pins.get(pin), what);
    }

    public long stress(int i, int rod) {
        if (!frame.isRod(rod) || !balance.isStress(i)) {
            return NO;
        }
        return balance.stressNumber(i, frame.rods.get(rod));
    }

    public int stiff() {
        return balance.motionCount() == frame.planeMotions() ? 1 : 0;
    }

    public int tight() {
        if (balance.stressCount() != 1) {
            return NONE;
        }
        return isTightAs(1) || isTightAs(-1) ? 1 : 0;
    }

    public int load(int pin, int x, int y) {
        if (!frame.isPin(pin) || !isForce(x) || !isForce(y)) {
            return BAD;
        }
        Pin one = frame.pins.get(pin);
        if (one.held) {
            return STATE;
        }
        one.forceX = x;
        one.forceY = y;
        renew();
        return 1;
    }

    public int carry() {
        return balance.isCarried() ? 1 : 0;
    }

    public long force(int rod, int what) {
        if (!frame.isRod(rod) || what < 0 || what > 1 || !balance.isCarried()) {
            return NO;
        }
        Rod one = frame.rods.get(rod);
        return what == 0 ? balance.forceAbove(one) : balance.forceBelow(one);
    }

    public int gives() {
        for (int i = 0; i < balance.motionCount(); i++) {
            if (balance.workOf(i) != 0) {
                return i;
            }
        }
        return NONE;
    }

    public int could() {
        return bodies.areAllOne() ? 1 : 0;
    }

    public int body(int body, int i) {
        return bodies.isBody(body) ? bodies.pinOf(body, i) : BAD;
    }

    public int plan(int i) {
        return offers.takenRod(i);
    }

    public int cheapest() {
        return offers.holds() ? offers.priceOfAll() : NONE;
    }

    public int tray(int tray, int what, int n) {
        return trays.fill(tray, what, n);
    }

    public int forge(int tray, int what, int n) {
        return trays.work(tray, what, n);
    }

    public int status() {
        return trays.latestStatus();
    }

    private static boolean isPlace(int x, int y) {
        return x >= 0 && x <= FARTHEST && y >= 0 && y <= FARTHEST;
    }

    private static boolean isForce(int number) {
        return number >= -MOST_FORCE && number <= MOST_FORCE;
    }

    private static boolean isPriceOf(int kind, int price) {
        return kind == SPARE ? price >= 1 && price <= MOST_PRICE : price == 0;
    }

    /** Works out anew, after each change, what depends on the frame. */
    private void renew() {
        frame.renew();
        balance.renew();
        offers.renew();
        bodies.renew();
    }

    private int neededCount() {
        int needed = 0;
        for (int i = 0; i < frame.rodsIn.size(); i++) {
            if (balance.isNeeded(frame.rodsIn.get(i))) {
                needed++;
            }
        }
        return needed;
    }

    /** Whether the only stress, taken with that sign, pulls every rope and pushes every prop. */
    private boolean isTightAs(int sign) {
        for (int i = 0; i < frame.rodsIn.size(); i++) {
            Rod rod = frame.rodsIn.get(i);
            long number = sign * balance.stressNumber(0, rod);
            if (rod.kind == ROPE && number <= 0 || rod.kind == PROP && number >= 0) {
                return false;
            }
        }
        return true;
    }

    private static final class Pin {
        final int number;
        int x;
        int y;
        boolean held;
        int forceX;
        int forceY;

        Pin(int number, int x, int y) {
            this.number = number;
            this.x = x;
            this.y = y;
        }
    }

    /** What a tray may hold. */
    private interface Thing {
    }

    private static final class Rod implements Thing {
        final int number;
        final int kind;
        final Pin first;
        final Pin second;
        final int price;
        boolean in;

        Rod(int number, int kind, Pin first, Pin second, int price) {
            this.number = number;
            this.kind = kind;
            this.first = first;
            this.second = second;
            this.price = price;
            this.in = kind < SPARE;
        }

        /** Whether it is of that kind or of one under it. */
        boolean isOf(int other) {
            return other == ROD || kind == other || kind == GIFT && other == SPARE;
        }

        boolean joins(Pin a, Pin b) {
            return first == a && second == b || first == b && second == a;
        }

        boolean endsAt(Pin pin) {
            return first == pin || second == pin;
        }

        /** The pin's place less the other end's, along x (axis 0) or y (1); 0 if it is no end. */
        int reach(Pin pin, int axis) {
            if (!endsAt(pin)) {
                return 0;
            }
            Pin other = pin == first ? second : first;
            return axis == 0 ? pin.x - other.x : pin.y - other.y;
        }
    }

    /** A row of numbers for a tray, kept as it was when the tray was filled. */
    private static final class Row implements Thing {
        final int sort;
        final long[] numbers;

        Row(int sort, int size) {
            this.sort = sort;
            this.numbers = new long[Math.max(size, 0)];
        }
    }

    private static final class Frame {
        final List<Pin> pins = new ArrayList<>();
        final List<Rod> rods = new ArrayList<>();
        final List<Pin> freePins = new ArrayList<>();
        final List<Rod> rodsIn = new ArrayList<>();

        /** Lists anew, after a change, the pins that are free and the rods that are in. */
        void renew() {
            freePins.clear();
            for (int i = 0; i < pins.size(); i++) {
                if (!pins.get(i).held) {
                    freePins.add(pins.get(i));
                }
            }
            rodsIn.clear();
            for (int i = 0; i < rods.size(); i++) {
                if (rods.get(i).in) {
                    rodsIn.add(rods.get(i));
                }
            }
        }

        boolean isPin(int pin) {
            return pin >= 0 && pin < pins.size();
        }

        boolean isRod(int rod) {
            return rod >= 0 && rod < rods.size();
        }

        Pin pinAt(int x, int y) {
            for (int i = 0; i < pins.size(); i++) {
                Pin pin = pins.get(i);
                if (pin.x == x && pin.y == y) {
                    return pin;
                }
            }
            return null;
        }

        boolean areJoined(Pin a, Pin b) {
            for (int i = 0; i < rods.size(); i++) {
                if (rods.get(i).joins(a, b)) {
                    return true;
                }
            }
            return false;
        }

        int rodsInAt(Pin pin) {
            int ends = 0;
            for (int i = 0; i < rodsIn.size(); i++) {
                if (rodsIn.get(i).endsAt(pin)) {
                    ends++;
                }
            }
            return ends;
        }

        /**
         * How many motions of the whole plane there are in a basis. They are motions of any frame,
         * so a frame is stiff just if it has no more. Places differ, so one held pin leaves the turn
         * about it, two leave nothing, and a single free pin cannot tell a turn from a shift.
         */
        int planeMotions() {
            int free = freePins.size();
            int held = pins.size() - free;
            if (free == 0 || held > 1) {
                return 0;
            }
            if (held == 1) {
                return 1;
            }
            return free == 1 ? 2 : 3;
        }
    }

    /**
     * Linear equations in whole numbers, one a row, with a right side behind the last column.
     * Reduced, each column either is loose or has a row of its own that is nought in all other such
     * columns. Rows are kept without a common divisor: so no number in them is above a minor of the
     * table, which for frames of this size is far inside a long, products of two as well.
     */
    private static final class Table {
        private final long[][] cells = new long[MOST_RODS][MOST_RODS + 1];
        private final boolean[] taken = new boolean[MOST_RODS];
        private final int[] rowOf = new int[MOST_RODS];
        private final int[] loose = new int[MOST_RODS];
        private final long[] scales = new long[MOST_RODS];
        private int rows = 0;
        private int columns = 0;
        private int looseCount = 0;

        /** One row a rod, two columns a pin. */
        void layRodsAsRows(List<Rod> rods, List<Pin> pins) {
            start(rods.size(), 2 * pins.size());
            for (int row = 0; row < rows; row++) {
                for (int column = 0; column < columns; column++) {
                    cells[row][column] = rods.get(row).reach(pins.get(column / 2), column % 2);
                }
                cells[row][columns] = 0;
            }
        }

        /** Two rows a pin, one column a rod; the pins' forces are the right side. */
        void layRodsAsColumns(List<Rod> rods, List<Pin> pins) {
            start(2 * pins.size(), rods.size());
            for (int row = 0; row < rows; row++) {
                Pin pin = pins.get(row / 2);
                for (int column = 0; column < columns; column++) {
                    cells[row][column] = rods.get(column).reach(pin, row % 2);
                }
                cells[row][columns] = row % 2 == 0 ? pin.forceX : pin.forceY;
            }
        }

        void reduce() {
            for (int column = 0; column < columns; column++) {
                int row = openRow(column);
                rowOf[column] = row;
                if (row == NONE) {
                    loose[looseCount] = column;
                    looseCount++;
                } else {
                    taken[row] = true;
                    makeAboveNought(cells[row], column);
                    clearColumn(row, column);
                }
            }
            for (int i = 0; i < looseCount; i++) {
                scales[i] = scaleOf(loose[i]);
            }
        }

        int looseColumns() {
            return looseCount;
        }

        int rank() {
            return columns - looseCount;
        }

        boolean isLoose(int column) {
            return column < 0 || column >= columns || rowOf[column] == NONE;
        }

        /** The column's number in the answer, to right sides of nought, of the i-th loose column. */
        long answer(int i, int column) {
            if (i < 0 || i >= looseCount) {
                return 0;
            }
            if (column == loose[i]) {
                return scales[i];
            }
            if (isLoose(column)) {
                return 0;
            }
            long[] line = cells[rowOf[column]];
            long own = line[column];
            return own == 0 ? 0 : -(line[loose[i]] * scales[i]) / own;
        }

        boolean hasSolution() {
            for (int row = 0; row < rows; row++) {
                if (!taken[row] && cells[row][columns] != 0) {
                    return false;
                }
            }
            return true;
        }

        /** Above the line of the column's fraction in the solution that is 0 in loose columns. */
        long solutionAbove(int column) {
            if (isLoose(column)) {
                return 0;
            }
            long[] line = cells[rowOf[column]];
            long shared = commonDivisor(line[columns], line[column]);
            return shared == 0 ? 0 : line[columns] / shared;
        }

        /** Below the line of that fraction. */
        long solutionBelow(int column) {
            if (isLoose(column)) {
                return 1;
            }
            long[] line = cells[rowOf[column]];
            return lowestBelow(line[columns], line[column]);
        }

        private void start(int newRows, int newColumns) {
            rows = Math.min(newRows, MOST_RODS);
            columns = Math.min(newColumns, MOST_RODS);
            looseCount = 0;
            for (int row = 0; row < rows; row++) {
                taken[row] = false;
            }
        }

        /** The first row that is no column's own yet and is not nought in this one; or NONE. */
        private int openRow(int column) {
            for (int row = 0; row < rows; row++) {
                if (!taken[row] && cells[row][column] != 0) {
                    return row;
                }
            }
            return NONE;
        }

        private void makeAboveNought(long[] line, int column) {
            if (line[column] > 0) {
                return;
            }
            for (int i = 0; i <= columns; i++) {
                line[i] = -line[i];
            }
        }

        private void clearColumn(int own, int column) {
            for (int row = 0; row < rows; row++) {
                if (row != own && cells[row][column] != 0) {
                    takeOff(cells[row], cells[own], column);
                    shrink(cells[row]);
                }
            }
        }

        /** Takes so much of one line off the other that its column becomes nought. */
        private void takeOff(long[] line, long[] off, int column) {
            long shared = commonDivisor(off[column], line[column]);
            if (shared == 0) {
                return;
            }
            long times = off[column] / shared;
            long offTimes = line[column] / shared;
            for (int i = 0; i <= columns; i++) {
                line[i] = times * line[i] - offTimes * off[i];
            }
        }

        private void shrink(long[] line) {
            long shared = 0;
            for (int i = 0; i <= columns && shared != 1; i++) {
                shared = commonDivisor(shared, line[i]);
            }
            if (shared < 2) {
                return;
            }
            for (int i = 0; i <= columns; i++) {
                line[i] /= shared;
            }
        }

        /** The least number for a loose column with which all others of its answer are whole. */
        private long scaleOf(int looseColumn) {
            long scale = 1;
            for (int column = 0; column < columns; column++) {
                if (!isLoose(column)) {
                    long[] line = cells[rowOf[column]];
                    scale = leastMultiple(scale, lowestBelow(line[looseColumn], line[column]));
                }
            }
            return scale;
        }

        /** What stands below the line of a fraction in lowest terms. */
        private static long lowestBelow(long above, long below) {
            long shared = commonDivisor(above, below);
            return shared == 0 ? 1 : below / shared;
        }

        private static long leastMultiple(long a, long b) {
            long shared = commonDivisor(a, b);
            return shared == 0 ? 0 : a / shared * b;
        }

        /** The greatest common divisor; 0 of two noughts. Its steps are never near the bound. */
        private static long commonDivisor(long a, long b) {
            long great = Math.abs(a);
            long small = Math.abs(b);
            for (int step = 0; step < 1000 && small != 0; step++) {
                long rest = great % small;
                great = small;
                small = rest;
            }
            return great;
        }
    }

    /** The motions, stresses and forces of the frame. */
    private static final class Balance {
        private final Frame frame;
        private final Table motions = new Table();
        private final Table stresses = new Table();

        Balance(Frame frame) {
            this.frame = frame;
        }

        int motionCount() {
            return motions.looseColumns();
        }

        int stressCount() {
            return stresses.looseColumns();
        }

        boolean isMotion(int i) {
            return i >= 0 && i < motionCount();
        }

        boolean isStress(int i) {
            return i >= 0 && i < stressCount();
        }

        long motionNumber(int i, Pin pin, int axis) {
            for (int place = 0; place < frame.freePins.size(); place++) {
                if (frame.freePins.get(place) == pin) {
                    return motions.answer(i, 2 * place + axis);
                }
            }
            return 0;
        }

        long stressNumber(int i, Rod rod) {
            return rod.in ? stresses.answer(i, columnOf(rod)) : 0;
        }

        boolean isNeeded(Rod rod) {
            for (int i = 0; i < stressCount(); i++) {
                if (stressNumber(i, rod) != 0) {
                    return false;
                }
            }
            return rod.in;
        }

        boolean isCarried() {
            return stresses.hasSolution();
        }

        long forceAbove(Rod rod) {
            return rod.in ? stresses.solutionAbove(columnOf(rod)) : 0;
        }

        long forceBelow(Rod rod) {
            return rod.in ? stresses.solutionBelow(columnOf(rod)) : 1;
        }

        long workOf(int i) {
            long work = 0;
            for (int place = 0; place < frame.freePins.size(); place++) {
                Pin pin = frame.freePins.get(place);
                work += motions.answer(i, 2 * place) * pin.forceX;
                work += motions.answer(i, 2 * place + 1) * pin.forceY;
            }
            return work;
        }

        void renew() {
            motions.layRodsAsRows(frame.rodsIn, frame.freePins);
            motions.reduce();
            stresses.layRodsAsColumns(frame.rodsIn, frame.freePins);
            stresses.reduce();
        }

        private int columnOf(Rod rod) {
            for (int column = 0; column < frame.rodsIn.size(); column++) {
                if (frame.rodsIn.get(column) == rod) {
                    return column;
                }
            }
            return NONE;
        }
    }

    /**
     * The plan. With the rods that are in as the first columns and the others behind them in their
     * order, a rod makes the motions fewer just if its column is not loose.
     */
    private static final class Offers {
        private final Frame frame;
        private final List<Rod> queue = new ArrayList<>();
        private final List<Rod> taken = new ArrayList<>();
        private final Table table = new Table();

        Offers(Frame frame) {
            this.frame = frame;
        }

        int takenRod(int i) {
            return i >= 0 && i < taken.size() ? taken.get(i).number : NONE;
        }

        int priceOfAll() {
            int sum = 0;
            for (int i = 0; i < taken.size(); i++) {
                sum += taken.get(i).price;
            }
            return sum;
        }

        boolean holds() {
            return 2 * frame.freePins.size() - table.rank() == frame.planeMotions();
        }

        void renew() {
            queueRodsIn();
            queueRodsOut();
            table.layRodsAsColumns(queue, frame.freePins);
            table.reduce();
            taken.clear();
            for (int column = frame.rodsIn.size(); column < queue.size(); column++) {
                if (!table.isLoose(column)) {
                    taken.add(queue.get(column));
                }
            }
        }

        private void queueRodsIn() {
            queue.clear();
            for (int i = 0; i < frame.rodsIn.size(); i++) {
                queue.add(frame.rodsIn.get(i));
            }
        }

        /** Puts the rods that are out behind the others, by price and of equal ones by numbers. */
        private void queueRodsOut() {
            for (int i = 0; i < frame.rods.size(); i++) {
                Rod rod = frame.rods.get(i);
                if (!rod.in) {
                    int place = queue.size();
                    while (place > frame.rodsIn.size() && queue.get(place - 1).price > rod.price) {
                        place--;
                    }
                    queue.add(place, rod);
                }
            }
        }
    }

    /**
     * The bodies by counts. A set of pins is a number with a bit a pin, the highest for the least
     * pin: from the highest number down, a set comes behind all that hold it, and sets of which
     * none holds the other come in the order of bodies.
     */
    private static final class Bodies {
        private static final int SETS = 1 << MOST_PINS;

        private final Frame frame;
        /** Of each set of pins: how many of the rods that were chosen lie between them. */
        private final int[] chosen = new int[SETS];
        private final int[] found = new int[SETS];
        private int foundCount = 0;
        private int greatest = 0;

        Bodies(Frame frame) {
            this.frame = frame;
        }

        int bodyCount() {
            return foundCount;
        }

        boolean isBody(int body) {
            return body >= 0 && body < bodyCount();
        }

        int surplus() {
            return frame.rodsIn.size() - greatest;
        }

        boolean areAllOne() {
            int pins = frame.pins.size();
            return pins >= 2 && greatest == mostRods(pins);
        }

        int leastBodyOf(Rod rod) {
            int ends = endsOf(rod);
            for (int body = 0; body < foundCount; body++) {
                if (holds(found[body], ends)) {
                    return body;
                }
            }
            return NONE;
        }

        int pinOf(int body, int i) {
            int left = i;
            for (int pin = 0; pin < MOST_PINS && isBody(body); pin++) {
                if (holds(found[body], bitOf(pin))) {
                    if (left == 0) {
                        return pin;
                    }
                    left--;
                }
            }
            return NONE;
        }

        void renew() {
            chooseRods();
            foundCount = 0;
            for (int set = SETS - 1; set > 0; set--) {
                if (Integer.bitCount(set) >= 2 && isFilled(set) && !isInBody(set)) {
                    found[foundCount] = set;
                    foundCount++;
                }
            }
        }

        private boolean isInBody(int set) {
            for (int body = 0; body < foundCount; body++) {
                if (holds(found[body], set)) {
                    return true;
                }
            }
            return false;
        }

        /**
         * Chooses a greatest even set of rods. To take each rod that still leaves the set even never
         * bars a greater one: even sets are a matroid.
         */
        private void chooseRods() {
            for (int set = 0; set < SETS; set++) {
                chosen[set] = 0;
            }
            greatest = 0;
            for (int i = 0; i < frame.rodsIn.size(); i++) {
                int ends = endsOf(frame.rodsIn.get(i));
                if (hasRoom(ends)) {
                    choose(ends);
                    greatest++;
                }
            }
        }

        private boolean hasRoom(int ends) {
            for (int set = ends; set < SETS; set++) {
                if (holds(set, ends) && isFilled(set)) {
                    return false;
                }
            }
            return true;
        }

        private void choose(int ends) {
            for (int set = ends; set < SETS; set++) {
                if (holds(set, ends)) {
                    chosen[set]++;
                }
            }
        }

        /**
         * Whether as many rods as can be even were chosen between those pins. Each body is filled,
         * whichever rods were chosen: each rod lies in a body, and a greatest even set has as many
         * rods as all bodies can take together, so that none of them may take fewer.
         */
        private boolean isFilled(int set) {
            return chosen[set] >= mostRods(Integer.bitCount(set));
        }

        /** How many rods between that many pins are even at the most. */
        private static int mostRods(int pins) {
            return 2 * pins - 3;
        }

        private static boolean holds(int set, int part) {
            return (set & part) == part;
        }

        private static int endsOf(Rod rod) {
            return bitOf(rod.first.number) | bitOf(rod.second.number);
        }

        private static int bitOf(int pin) {
            return SETS >> (pin + 1);
        }
    }

    /** The trays and what the host does with the things in them. */
    private static final class Trays {
        private static final int TRAYS = 6;
        private static final int FARTHEST_NUMBER = 100;
        private static final int COPY_SIZE = 9;
        private static final int SHARED_OUT = 1000;

        private static final int A_ROD = 1;
        private static final int A_MOTION = 2;
        private static final int PRICES = 3;
        private static final int TRUTHS = 4;

        private static final int DONE = 0;
        private static final int NONE_SUCH = 1;
        private static final int NOTHING = 10;
        private static final int OTHER_KIND = 11;
        private static final int OUTSIDE = 12;
        private static final int BELOW_NOUGHT = 13;
        private static final int UNFIT = 14;
        private static final int BY_NOUGHT = 15;

        private final Frame frame;
        private final Balance balance;
        /** Null where a tray holds nothing. */
        private final Thing[] things = new Thing[TRAYS];
        private int status = DONE;

        Trays(Frame frame, Balance balance) {
            this.frame = frame;
            this.balance = balance;
        }

        int latestStatus() {
            return status;
        }

        int fill(int tray, int what, int n) {
            if (!isTray(tray) || !isThing(what, n)) {
                return refuse(NONE_SUCH);
            }
            things[tray] = thingFor(what, n);
            return done(1);
        }

        int work(int tray, int what, int n) {
            if (!isTray(tray) || n < -FARTHEST_NUMBER || n > FARTHEST_NUMBER) {
                return refuse(NONE_SUCH);
            }
            Thing thing = things[tray];
            switch (what) {
                case 0: return firstPinAs(thing, Math.floorMod(n, KINDS));
                case 1: return howManyAre(thing, n);
                case 2: return numberAt(thing, PRICES, n);
                case 3: return numberAt(thing, TRUTHS, n);
                case 4: return n < 0 ? refuse(BELOW_NOUGHT) : done(n);
                case 5: return sumOfCopied(thing, n);
                case 6: return priceAsSpare(thing);
                case 7: return n == 0 ? refuse(BY_NOUGHT) : done(SHARED_OUT / n);
                case 8: return refuse(NOTHING);
                default: return refuse(NONE_SUCH);
            }
        }

        private static boolean isTray(int tray) {
            return tray >= 0 && tray < TRAYS;
        }

        private boolean isThing(int what, int n) {
            switch (what) {
                case 0: return true;
                case A_ROD: return frame.isRod(n);
                case A_MOTION: return balance.isMotion(n);
                case PRICES: return true;
                case TRUTHS: return true;
                default: return false;
            }
        }

        private Thing thingFor(int what, int n) {
            switch (what) {
                case A_ROD: return frame.isRod(n) ? frame.rods.get(n) : null;
                case A_MOTION: return motionRow(n);
                case PRICES: return rodRow(PRICES);
                case TRUTHS: return rodRow(TRUTHS);
                default: return null;
            }
        }

        private Row motionRow(int i) {
            Row row = new Row(A_MOTION, 2 * frame.pins.size());
            for (int place = 0; place < row.numbers.length; place++) {
                row.numbers[place] = balance.motionNumber(i, frame.pins.get(place / 2), place % 2);
            }
            return row;
        }

        private Row rodRow(int sort) {
            Row row = new Row(sort, frame.rods.size());
            for (int i = 0; i < row.numbers.length; i++) {
                Rod rod = frame.rods.get(i);
                row.numbers[i] = sort == PRICES ? rod.price : rod.in ? 1 : 0;
            }
            return row;
        }

        private int firstPinAs(Thing thing, int kind) {
            if (thing == null) {
                return refuse(NOTHING);
            }
            if (thing instanceof Rod rod && rod.isOf(kind)) {
                return done(rod.first.number);
            }
            return refuse(OTHER_KIND);
        }

        private int howManyAre(Thing thing, int n) {
            Row row = rowOf(thing, A_MOTION);
            if (row == null) {
                return refuseRow(thing);
            }
            int many = 0;
            for (int i = 0; i < row.numbers.length; i++) {
                if (row.numbers[i] == n) {
                    many++;
                }
            }
            return done(many);
        }

        private int numberAt(Thing thing, int sort, int n) {
            Row row = rowOf(thing, sort);
            if (row == null) {
                return refuseRow(thing);
            }
            if (n < 0 || n >= row.numbers.length) {
                return refuse(OUTSIDE);
            }
            return done((int) row.numbers[n]);
        }

        /** All that the new row holds beside noughts is what was copied: so its sum is theirs. */
        private int sumOfCopied(Thing thing, int n) {
            Row row = rowOf(thing, PRICES);
            if (row == null) {
                return refuseRow(thing);
            }
            if (n < 0 || 1 + n > row.numbers.length || n + n > COPY_SIZE) {
                return refuse(OUTSIDE);
            }
            int sum = 0;
            for (int i = 1; i <= n; i++) {
                sum += (int) row.numbers[i];
            }
            return done(sum);
        }

        private int priceAsSpare(Thing thing) {
            if (thing == null) {
                return done(0);
            }
            if (thing instanceof Rod rod && rod.isOf(SPARE)) {
                return done(rod.price);
            }
            return refuse(UNFIT);
        }

        /** The thing as a row of that sort, or null. */
        private static Row rowOf(Thing thing, int sort) {
            return thing instanceof Row row && row.sort == sort ? row : null;
        }

        /** Refuses what is no row of the sort that was asked. */
        private int refuseRow(Thing thing) {
            return refuse(thing == null ? NOTHING : OTHER_KIND);
        }

        private int done(int answer) {
            status = DONE;
            return answer;
        }

        private int refuse(int why) {
            status = why;
            return -1;
        }
    }
}
