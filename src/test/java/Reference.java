import java.math.BigInteger;
import java.util.ArrayList;
import java.util.List;

/**
 * The document once more, in another way: fractions of big numbers, all sets of rods one by one,
 * and a host whose machine really throws. Slow; it is only there to be compared with.
 */
final class Reference {
    static final int NONE = -1, BAD = -2, STATE = -3, FULL = -4;
    static final long NO = -4611686018427387904L;

    private static final class Fraction {
        static final Fraction NOUGHT = new Fraction(BigInteger.ZERO, BigInteger.ONE);
        final BigInteger above;
        final BigInteger below;

        Fraction(BigInteger above, BigInteger below) {
            BigInteger shared = above.gcd(below);
            if (below.signum() < 0) {
                shared = shared.negate();
            }
            this.above = above.divide(shared);
            this.below = below.divide(shared);
        }

        static Fraction of(long number) {
            return new Fraction(BigInteger.valueOf(number), BigInteger.ONE);
        }

        boolean isNought() {
            return above.signum() == 0;
        }

        Fraction minus(Fraction other) {
            return new Fraction(above.multiply(other.below).subtract(other.above.multiply(below)),
                below.multiply(other.below));
        }

        Fraction times(Fraction other) {
            return new Fraction(above.multiply(other.above), below.multiply(other.below));
        }

        Fraction over(Fraction other) {
            return new Fraction(above.multiply(other.below), below.multiply(other.above));
        }
    }

    private static class Rod {
        int kind;
        int first;
        int second;
        int price;
        boolean in;
    }

    private static final class Rope extends Rod {
    }

    private static final class Prop extends Rod {
    }

    private static class Spare extends Rod {
    }

    private static final class Gift extends Spare {
    }

    private final List<int[]> pins = new ArrayList<>();
    private final List<Rod> rods = new ArrayList<>();
    private final Object[] trays = new Object[6];
    private int status = 0;
    private List<Integer> bodiesKept = null;
    private int greatestKept = 0;

    // a pin is x, y, held, force x, force y
    int pin(int x, int y) {
        if (x < 0 || x > 5 || y < 0 || y > 5) {
            return BAD;
        }
        if (at(x, y) >= 0) {
            return STATE;
        }
        if (pins.size() == 6) {
            return FULL;
        }
        bodiesKept = null;
        pins.add(new int[] {x, y, 0, 0, 0});
        return pins.size() - 1;
    }

    int move(int pin, int x, int y) {
        if (pin < 0 || pin >= pins.size() || x < 0 || x > 5 || y < 0 || y > 5) {
            return BAD;
        }
        if (at(x, y) >= 0 && at(x, y) != pin) {
            return STATE;
        }
        pins.get(pin)[0] = x;
        pins.get(pin)[1] = y;
        return 1;
    }

    int hold(int pin, boolean held) {
        if (pin < 0 || pin >= pins.size()) {
            return BAD;
        }
        int was = pins.get(pin)[2];
        pins.get(pin)[2] = held ? 1 : 0;
        if (held) {
            pins.get(pin)[3] = 0;
            pins.get(pin)[4] = 0;
        }
        return was == pins.get(pin)[2] ? 0 : 1;
    }

    int rod(int kind, int a, int b, int price) {
        if (kind < 0 || kind > 4 || a < 0 || a >= pins.size() || b < 0 || b >= pins.size() || a == b) {
            return BAD;
        }
        if (price < 0 || price > 1000 || (kind == 3) != (price > 0)) {
            return BAD;
        }
        for (Rod rod : rods) {
            if (Math.min(rod.first, rod.second) == Math.min(a, b)
                && Math.max(rod.first, rod.second) == Math.max(a, b)) {
                return STATE;
            }
        }
        if (rods.size() == 15) {
            return FULL;
        }
        bodiesKept = null;
        Rod rod = kind == 0 ? new Rod() : kind == 1 ? new Rope() : kind == 2 ? new Prop()
            : kind == 3 ? new Spare() : new Gift();
        rod.kind = kind;
        rod.first = a;
        rod.second = b;
        rod.price = price;
        rod.in = kind < 3;
        rods.add(rod);
        return rods.size() - 1;
    }

    int put(int rod, boolean in) {
        if (rod < 0 || rod >= rods.size() || !(rods.get(rod) instanceof Spare)) {
            return BAD;
        }
        bodiesKept = null;
        boolean was = rods.get(rod).in;
        rods.get(rod).in = in;
        return was == in ? 0 : 1;
    }

    int count(int what) {
        switch (what) {
            case 0: return pins.size();
            case 1: return free().size();
            case 2: return rods.size();
            case 3: return in().size();
            case 4: return motions().size();
            case 5: return stresses().size();
            case 6: return rank(transposed(balance(in())));
            case 7: return bodies().size();
            case 8:
                bodies();
                return in().size() - greatestKept;
            case 9: {
                int needed = 0;
                for (int rod = 0; rod < rods.size(); rod++) {
                    needed += needed(rod);
                }
                return needed;
            }
            default: return BAD;
        }
    }

    int pinTold(int pin, int what) {
        if (pin < 0 || pin >= pins.size() || what < 0 || what > 5) {
            return BAD;
        }
        if (what == 3) {
            int ends = 0;
            for (Rod rod : rods) {
                ends += rod.in && (rod.first == pin || rod.second == pin) ? 1 : 0;
            }
            return ends;
        }
        return pins.get(pin)[what < 3 ? what : what - 1];
    }

    int rodTold(int rod, int what) {
        if (rod < 0 || rod >= rods.size() || what < 0 || what > 6) {
            return BAD;
        }
        Rod one = rods.get(rod);
        if (what == 5) {
            return needed(rod);
        }
        if (what == 6) {
            for (int body = 0; body < bodies().size(); body++) {
                int set = bodies().get(body);
                if ((set >> one.first & 1) == 1 && (set >> one.second & 1) == 1) {
                    return body;
                }
            }
            return NONE;
        }
        return what == 0 ? one.kind : what == 1 ? one.first : what == 2 ? one.second
            : what == 3 ? one.price : one.in ? 1 : 0;
    }

    long motion(int i, int pin, int what) {
        if (i < 0 || i >= motions().size() || pin < 0 || pin >= pins.size() || what < 0 || what > 1) {
            return NO;
        }
        return motions().get(i)[2 * pin + what].longValueExact();
    }

    long stress(int i, int rod) {
        if (i < 0 || i >= stresses().size() || rod < 0 || rod >= rods.size()) {
            return NO;
        }
        int column = in().indexOf(rod);
        return column < 0 ? 0 : stresses().get(i)[column].longValueExact();
    }

    int stiff() {
        return stiffWith(in()) ? 1 : 0;
    }

    int tight() {
        if (stresses().size() != 1) {
            return NONE;
        }
        for (int sign = -1; sign <= 1; sign += 2) {
            boolean right = true;
            for (int rod = 0; rod < rods.size(); rod++) {
                long number = sign * stress(0, rod);
                right &= !(rods.get(rod) instanceof Rope) || number > 0;
                right &= !(rods.get(rod) instanceof Prop) || number < 0;
            }
            if (right) {
                return 1;
            }
        }
        return 0;
    }

    int load(int pin, int x, int y) {
        if (pin < 0 || pin >= pins.size() || Math.abs((long) x) > 20 || Math.abs((long) y) > 20) {
            return BAD;
        }
        if (pins.get(pin)[2] == 1) {
            return STATE;
        }
        pins.get(pin)[3] = x;
        pins.get(pin)[4] = y;
        return 1;
    }

    int carry() {
        return forces() == null ? 0 : 1;
    }

    long force(int rod, int what) {
        Fraction[] forces = forces();
        if (rod < 0 || rod >= rods.size() || what < 0 || what > 1 || forces == null) {
            return NO;
        }
        int column = in().indexOf(rod);
        Fraction force = column < 0 ? Fraction.NOUGHT : forces[column];
        return (what == 0 ? force.above : force.below).longValueExact();
    }

    int gives() {
        List<BigInteger[]> motions = motions();
        for (int i = 0; i < motions.size(); i++) {
            BigInteger work = BigInteger.ZERO;
            for (int pin = 0; pin < pins.size(); pin++) {
                for (int axis = 0; axis < 2; axis++) {
                    work = work.add(motions.get(i)[2 * pin + axis]
                        .multiply(BigInteger.valueOf(pins.get(pin)[3 + axis])));
                }
            }
            if (work.signum() != 0) {
                return i;
            }
        }
        return NONE;
    }

    int could() {
        bodies();
        return pins.size() >= 2 && greatestKept == 2 * pins.size() - 3 ? 1 : 0;
    }

    int body(int body, int i) {
        if (body < 0 || body >= bodies().size()) {
            return BAD;
        }
        List<Integer> members = members(bodies().get(body));
        return i >= 0 && i < members.size() ? members.get(i) : NONE;
    }

    int plan(int i) {
        List<Integer> plan = planned();
        return i >= 0 && i < plan.size() ? plan.get(i) : NONE;
    }

    int cheapest() {
        int sum = 0;
        List<Integer> with = in();
        for (int rod : planned()) {
            sum += rods.get(rod).price;
            with.add(rod);
        }
        return stiffWith(with) ? sum : NONE;
    }

    int tray(int tray, int what, int n) {
        status = 1;
        if (tray < 0 || tray > 5 || what < 0 || what > 4 || what == 1 && (n < 0 || n >= rods.size())
            || what == 2 && (n < 0 || n >= motions().size())) {
            return -1;
        }
        status = 0;
        trays[tray] = null;
        if (what == 1) {
            trays[tray] = rods.get(n);
        } else if (what == 2) {
            BigInteger[] motion = motions().get(n);
            long[] row = new long[motion.length];
            for (int i = 0; i < row.length; i++) {
                row[i] = motion[i].longValueExact();
            }
            trays[tray] = row;
        } else if (what == 3) {
            int[] row = new int[rods.size()];
            for (int i = 0; i < row.length; i++) {
                row[i] = rods.get(i).price;
            }
            trays[tray] = row;
        } else if (what == 4) {
            boolean[] row = new boolean[rods.size()];
            for (int i = 0; i < row.length; i++) {
                row[i] = rods.get(i).in;
            }
            trays[tray] = row;
        }
        return 1;
    }

    int forge(int tray, int what, int n) {
        status = 1;
        if (tray < 0 || tray > 5 || what < 0 || what > 8 || n < -100 || n > 100) {
            return -1;
        }
        try {
            int answer = hostDoes(trays[tray], what, n);
            status = 0;
            return answer;
        } catch (NullPointerException e) {
            status = 10;
        } catch (ClassCastException e) {
            status = 11;
        } catch (IndexOutOfBoundsException e) {
            status = 12;
        } catch (NegativeArraySizeException e) {
            status = 13;
        } catch (ArrayStoreException e) {
            status = 14;
        } catch (ArithmeticException e) {
            status = 15;
        }
        return -1;
    }

    int status() {
        return status;
    }

    private static int hostDoes(Object thing, int what, int n) {
        switch (what) {
            case 0: {
                int kind = Math.floorMod(n, 5);
                Rod rod = kind == 0 ? (Rod) thing : kind == 1 ? (Rope) thing : kind == 2 ? (Prop) thing
                    : kind == 3 ? (Spare) thing : (Gift) thing;
                return rod.first;
            }
            case 1: {
                int many = 0;
                for (long number : (long[]) thing) {
                    many += number == n ? 1 : 0;
                }
                return many;
            }
            case 2: return ((int[]) thing)[n];
            case 3: return ((boolean[]) thing)[n] ? 1 : 0;
            case 4: return new int[n].length;
            case 5: {
                int[] row = new int[9];
                System.arraycopy((int[]) thing, 1, row, n, n);
                int sum = 0;
                for (int number : row) {
                    sum += number;
                }
                return sum;
            }
            case 6: {
                Object[] row = new Spare[1];
                row[0] = thing;
                return thing == null ? 0 : ((Spare) row[0]).price;
            }
            case 7: return 1000 / n;
            default: throw null;
        }
    }

    private int at(int x, int y) {
        for (int i = 0; i < pins.size(); i++) {
            if (pins.get(i)[0] == x && pins.get(i)[1] == y) {
                return i;
            }
        }
        return -1;
    }

    private List<Integer> free() {
        List<Integer> free = new ArrayList<>();
        for (int i = 0; i < pins.size(); i++) {
            if (pins.get(i)[2] == 0) {
                free.add(i);
            }
        }
        return free;
    }

    private List<Integer> in() {
        List<Integer> in = new ArrayList<>();
        for (int i = 0; i < rods.size(); i++) {
            if (rods.get(i).in) {
                in.add(i);
            }
        }
        return in;
    }

    /** The balance at the free pins: a list of columns, one for each of those rods. */
    private List<Fraction[]> balance(List<Integer> list) {
        List<Integer> free = free();
        List<Fraction[]> columns = new ArrayList<>();
        for (int number : list) {
            Rod rod = rods.get(number);
            Fraction[] column = new Fraction[2 * free.size()];
            for (int i = 0; i < free.size(); i++) {
                for (int axis = 0; axis < 2; axis++) {
                    int gap = pins.get(rod.first)[axis] - pins.get(rod.second)[axis];
                    int number2 = free.get(i) == rod.first ? gap : free.get(i) == rod.second ? -gap : 0;
                    column[2 * i + axis] = Fraction.of(number2);
                }
            }
            columns.add(column);
        }
        return columns;
    }

    /** From the columns of the balance to those of the motions' equations. */
    private List<Fraction[]> transposed(List<Fraction[]> columns) {
        List<Fraction[]> turned = new ArrayList<>();
        for (int i = 0; i < 2 * free().size(); i++) {
            Fraction[] row = new Fraction[columns.size()];
            for (int j = 0; j < row.length; j++) {
                row[j] = columns.get(j)[i];
            }
            turned.add(row);
        }
        return turned;
    }

    /**
     * Numbers for the columns so that their sum is the target, 0 for each column that those ahead of
     * it make up; null if there are none.
     */
    private static Fraction[] solve(List<Fraction[]> columns, Fraction[] target) {
        int height = target.length;
        Fraction[][] rows = new Fraction[height][columns.size() + 1];
        for (int i = 0; i < height; i++) {
            for (int j = 0; j < columns.size(); j++) {
                rows[i][j] = columns.get(j)[i];
            }
            rows[i][columns.size()] = target[i];
        }
        int[] rowOf = new int[columns.size()];
        int rank = 0;
        for (int j = 0; j < columns.size(); j++) {
            rowOf[j] = -1;
            int found = rank;
            while (found < height && rows[found][j].isNought()) {
                found++;
            }
            if (found == height) {
                continue;
            }
            Fraction[] line = rows[found];
            rows[found] = rows[rank];
            rows[rank] = line;
            for (int i = 0; i < height; i++) {
                if (i != rank && !rows[i][j].isNought()) {
                    Fraction times = rows[i][j].over(line[j]);
                    for (int k = j; k < line.length; k++) {
                        rows[i][k] = rows[i][k].minus(times.times(line[k]));
                    }
                }
            }
            rowOf[j] = rank++;
        }
        for (int i = rank; i < height; i++) {
            if (!rows[i][columns.size()].isNought()) {
                return null;
            }
        }
        Fraction[] answer = new Fraction[columns.size()];
        for (int j = 0; j < answer.length; j++) {
            answer[j] = rowOf[j] < 0 ? Fraction.NOUGHT
                : rows[rowOf[j]][columns.size()].over(rows[rowOf[j]][j]);
        }
        return answer;
    }

    private static int rank(List<Fraction[]> columns) {
        int rank = 0;
        for (int j = 0; j < columns.size(); j++) {
            rank += solve(columns.subList(0, j), columns.get(j)) == null ? 1 : 0;
        }
        return rank;
    }

    /** For each column that those ahead of it make up, its answer in whole numbers. */
    private static List<BigInteger[]> answers(List<Fraction[]> columns) {
        List<BigInteger[]> answers = new ArrayList<>();
        for (int j = 0; j < columns.size(); j++) {
            Fraction[] made = solve(columns.subList(0, j), columns.get(j));
            if (made == null) {
                continue;
            }
            BigInteger scale = BigInteger.ONE;
            for (Fraction fraction : made) {
                scale = scale.multiply(fraction.below).divide(scale.gcd(fraction.below));
            }
            BigInteger[] answer = new BigInteger[columns.size()];
            for (int k = 0; k < answer.length; k++) {
                answer[k] = k == j ? scale : k > j ? BigInteger.ZERO
                    : made[k].above.multiply(scale).divide(made[k].below).negate();
            }
            answers.add(answer);
        }
        return answers;
    }

    /** The rows of motions, with an x and a y for each pin, held ones too. */
    private List<BigInteger[]> motions() {
        return motionsWith(in());
    }

    private List<BigInteger[]> motionsWith(List<Integer> list) {
        List<Integer> free = free();
        List<BigInteger[]> motions = new ArrayList<>();
        for (BigInteger[] answer : answers(transposed(balance(list)))) {
            BigInteger[] motion = new BigInteger[2 * pins.size()];
            for (int i = 0; i < motion.length; i++) {
                int place = free.indexOf(i / 2);
                motion[i] = place < 0 ? BigInteger.ZERO : answer[2 * place + i % 2];
            }
            motions.add(motion);
        }
        return motions;
    }

    private List<BigInteger[]> stresses() {
        return answers(balance(in()));
    }

    private int needed(int rod) {
        List<Integer> list = in();
        int column = list.indexOf(rod);
        if (column < 0) {
            return 0;
        }
        for (BigInteger[] stress : stresses()) {
            if (stress[column].signum() != 0) {
                return 0;
            }
        }
        return 1;
    }

    private Fraction[] forces() {
        List<Integer> free = free();
        Fraction[] target = new Fraction[2 * free.size()];
        for (int i = 0; i < target.length; i++) {
            target[i] = Fraction.of(pins.get(free.get(i / 2))[3 + i % 2]);
        }
        return solve(balance(in()), target);
    }

    private boolean stiffWith(List<Integer> list) {
        List<Fraction[]> plane = new ArrayList<>();
        for (int which = 0; which < 3; which++) {
            Fraction[] column = new Fraction[2 * pins.size()];
            for (int i = 0; i < column.length; i++) {
                int[] pin = pins.get(i / 2);
                int turn = i % 2 == 0 ? -pin[1] : pin[0];
                column[i] = Fraction.of(which == 2 ? turn : which == i % 2 ? 1 : 0);
            }
            plane.add(column);
        }
        for (BigInteger[] motion : motionsWith(list)) {
            Fraction[] target = new Fraction[motion.length];
            for (int i = 0; i < target.length; i++) {
                target[i] = new Fraction(motion[i], BigInteger.ONE);
            }
            if (solve(plane, target) == null) {
                return false;
            }
        }
        return true;
    }

    private List<Integer> planned() {
        List<Integer> left = new ArrayList<>();
        for (int rod = 0; rod < rods.size(); rod++) {
            if (!rods.get(rod).in) {
                left.add(rod);
            }
        }
        List<Integer> with = in();
        List<Integer> plan = new ArrayList<>();
        while (!left.isEmpty()) {
            int best = 0;
            for (int i = 1; i < left.size(); i++) {
                if (rods.get(left.get(i)).price < rods.get(left.get(best)).price) {
                    best = i;
                }
            }
            int rod = left.remove(best);
            int before = rank(balance(with));
            with.add(rod);
            if (rank(balance(with)) > before) {
                plan.add(rod);
            } else {
                with.remove(with.size() - 1);
            }
        }
        return plan;
    }

    private static List<Integer> members(int set) {
        List<Integer> members = new ArrayList<>();
        for (int pin = 0; pin < 6; pin++) {
            if ((set >> pin & 1) == 1) {
                members.add(pin);
            }
        }
        return members;
    }

    /** The bodies as sets of pins (pin p is bit p), in their order; from all sets of rods. */
    private List<Integer> bodies() {
        if (bodiesKept != null) {
            return bodiesKept;
        }
        List<Integer> list = in();
        int sets = 1 << list.size();
        boolean[] even = new boolean[sets];
        boolean[] whole = new boolean[64];
        even[0] = true;
        greatestKept = 0;
        for (int set = 1; set < sets; set++) {
            int ends = 0;
            boolean good = true;
            for (int i = 0; i < list.size(); i++) {
                if ((set >> i & 1) == 1) {
                    Rod rod = rods.get(list.get(i));
                    ends |= 1 << rod.first | 1 << rod.second;
                    good &= even[set & ~(1 << i)];
                }
            }
            int size = Integer.bitCount(set);
            int most = 2 * Integer.bitCount(ends) - 3;
            even[set] = good && size <= most;
            if (even[set]) {
                greatestKept = Math.max(greatestKept, size);
                whole[ends] |= size == most;
            }
        }
        List<Integer> bodies = new ArrayList<>();
        for (int set = 0; set < 64; set++) {
            boolean greatest = whole[set];
            for (int other = 0; other < 64; other++) {
                greatest &= other == set || !whole[other] || (other & set) != set;
            }
            if (greatest) {
                bodies.add(set);
            }
        }
        bodies.sort((a, b) -> firstDifference(members(a), members(b)));
        bodiesKept = bodies;
        return bodies;
    }

    private static int firstDifference(List<Integer> a, List<Integer> b) {
        for (int i = 0; i < a.size() && i < b.size(); i++) {
            if (!a.get(i).equals(b.get(i))) {
                return a.get(i) - b.get(i);
            }
        }
        return a.size() - b.size();
    }
}
