import java.math.BigInteger;
import java.util.ArrayList;
import java.util.HashMap;
import java.util.List;
import java.util.Map;

/**
 * The document once more, as literally and as slowly as it can be written, to compare FairDesk with.
 * It shares no line with the program: places are big fractions, all ways are gone through one by one.
 */
final class PlainDesk {
    /** A big fraction. */
    static final class Ratio implements Comparable<Ratio> {
        final BigInteger above;
        final BigInteger below;

        Ratio(BigInteger above, BigInteger below) {
            BigInteger divisor = above.gcd(below);
            this.above = above.divide(divisor);
            this.below = below.divide(divisor);
        }

        static Ratio of(long number) {
            return new Ratio(BigInteger.valueOf(number), BigInteger.ONE);
        }

        Ratio plus(Ratio other) {
            return new Ratio(above.multiply(other.below).add(other.above.multiply(below)), below.multiply(other.below));
        }

        Ratio times(long above2, long below2) {
            return new Ratio(above.multiply(BigInteger.valueOf(above2)), below.multiply(BigInteger.valueOf(below2)));
        }

        Ratio minus(Ratio other) {
            return plus(other.times(-1, 1));
        }

        int floor() {
            return above.divide(below).intValueExact();
        }

        @Override
        public int compareTo(Ratio other) {
            return above.multiply(other.below).compareTo(other.above.multiply(below));
        }
    }

    private int n;
    private int m;
    private int length;
    private int totalRent;
    private Map<Integer, Integer> values;
    private Map<Integer, Integer> roomValues;
    private Map<Integer, Integer> densities;
    private int[] holders;
    private int[] gotRooms;
    private Ratio[] rents;
    private Ratio[][] pieces;

    PlainDesk() {
        people(1);
    }

    private static void argument(boolean right) {
        if (!right) {
            throw new IllegalArgumentException();
        }
    }

    private static void index(boolean right) {
        if (!right) {
            throw new IndexOutOfBoundsException();
        }
    }

    private static void state(boolean right) {
        if (!right) {
            throw new IllegalStateException();
        }
    }

    private boolean person(int p) {
        return p >= 0 && p < n;
    }

    private boolean item(int i) {
        return i >= 0 && i < m;
    }

    void people(int newN) {
        argument(newN >= 1 && newN <= 6);
        n = newN;
        m = 0;
        length = 1;
        totalRent = 0;
        values = new HashMap<>();
        roomValues = new HashMap<>();
        densities = new HashMap<>();
        holders = new int[0];
        gotRooms = null;
        rents = null;
        pieces = null;
    }

    void items(int newM) {
        argument(newM >= 0 && newM <= 12);
        m = newM;
        values.keySet().removeIf(key -> key % 100 >= newM);
        putBack();
    }

    private void putBack() {
        holders = new int[m];
        java.util.Arrays.fill(holders, -1);
    }

    private static int put(Map<Integer, Integer> map, int p, int k, int v) {
        Integer before = map.put(p * 100 + k, v);
        return before == null ? 0 : before;
    }

    private static int get(Map<Integer, Integer> map, int p, int k) {
        return map.getOrDefault(p * 100 + k, 0);
    }

    int value(int p, int i, int v) {
        argument(v >= 0 && v <= 1000);
        index(person(p) && item(i));
        return put(values, p, i, v);
    }

    void picks(int first) {
        index(person(first));
        putBack();
        List<Integer> left = new ArrayList<>();
        for (int i = 0; i < m; i++) {
            left.add(i);
        }
        for (int turn = first; !left.isEmpty(); turn++) {
            int p = turn % n;
            Integer taken = left.get(0);
            for (Integer i : left) {
                if (get(values, p, i) > get(values, p, taken)) {
                    taken = i;
                }
            }
            holders[taken] = p;
            left.remove(taken);
        }
    }

    private boolean envies(int p, int q) {
        return worth(p, q) > worth(p, p);
    }

    int circles() {
        putBack();
        int turned = 0;
        for (int i = 0; i < m; i++) {
            int getter = unenvied();
            while (getter < 0) {
                turn();
                turned++;
                getter = unenvied();
            }
            holders[i] = getter;
        }
        return turned;
    }

    private int unenvied() {
        for (int q = 0; q < n; q++) {
            boolean envied = false;
            for (int p = 0; p < n; p++) {
                envied |= envies(p, q);
            }
            if (!envied) {
                return q;
            }
        }
        return -1;
    }

    private void turn() {
        List<Integer> way = new ArrayList<>();
        int stand = 0;
        while (!way.contains(stand)) {
            way.add(stand);
            int next = 0;
            while (!envies(next, stand)) {
                next++;
            }
            stand = next;
        }
        List<Integer> circle = way.subList(way.indexOf(stand), way.size());
        int[] after = holders.clone();
        for (int c = 0; c < circle.size(); c++) {
            int goneFrom = circle.get(c);
            int goneTo = circle.get((c + 1) % circle.size());
            for (int i = 0; i < m; i++) {
                if (holders[i] == goneFrom) {
                    after[i] = goneTo;
                }
            }
        }
        holders = after;
    }

    private long ways() {
        return BigInteger.valueOf(n).pow(m).min(BigInteger.valueOf(65537)).longValueExact();
    }

    /** The way of this number: item 0's holder is the first digit. */
    private int[] way(long number) {
        int[] way = new int[m];
        for (int i = m - 1; i >= 0; i--) {
            way[i] = (int) (number % n);
            number /= n;
        }
        return way;
    }

    long product() {
        state(ways() <= 65536);
        int most = -1;
        long greatest = 0;
        for (long number = 0; number < ways(); number++) {
            int[] way = way(number);
            long[] sums = new long[n];
            for (int i = 0; i < m; i++) {
                sums[way[i]] += get(values, way[i], i);
            }
            int count = 0;
            long product = 1;
            for (long sum : sums) {
                if (sum > 0) {
                    count++;
                    product *= sum;
                }
            }
            if (count > most || count == most && product > greatest) {
                most = count;
                greatest = product;
                holders = way;
            }
        }
        return greatest;
    }

    int give(int i, int p) {
        index(item(i) && (person(p) || p == -1));
        int before = holders[i];
        holders[i] = p;
        return before;
    }

    int holder(int i) {
        index(item(i));
        return holders[i];
    }

    int worth(int p, int q) {
        index(person(p) && person(q));
        int sum = 0;
        for (int i = 0; i < m; i++) {
            sum += holders[i] == q ? get(values, p, i) : 0;
        }
        return sum;
    }

    int envy(int p, int q, boolean drop) {
        int theirs = worth(p, q);
        int own = worth(p, p);
        int greatest = 0;
        for (int i = 0; i < m; i++) {
            greatest = Math.max(greatest, holders[i] == q ? get(values, p, i) : 0);
        }
        return Math.max(theirs - (drop ? greatest : 0) - own, 0);
    }

    int guarantee(int p) {
        index(person(p));
        state(ways() <= 65536);
        int greatest = 0;
        for (long number = 0; number < ways(); number++) {
            int[] way = way(number);
            int[] sums = new int[n];
            for (int i = 0; i < m; i++) {
                sums[way[i]] += get(values, p, i);
            }
            greatest = Math.max(greatest, java.util.Arrays.stream(sums).min().getAsInt());
        }
        return greatest;
    }

    int room(int p, int r, int v) {
        argument(v >= 0 && v <= 100000);
        index(person(p) && person(r));
        return put(roomValues, p, r, v);
    }

    int total(int newTotal) {
        argument(newTotal >= 0 && newTotal <= 600000);
        int before = totalRent;
        totalRent = newTotal;
        return before;
    }

    int rooms() {
        for (int p = 0; p < n; p++) {
            int sum = 0;
            for (int r = 0; r < n; r++) {
                sum += get(roomValues, p, r);
            }
            state(sum == totalRent);
        }
        List<int[]> ways = new ArrayList<>();
        orders(new int[n], 0, ways);
        int most = -1;
        for (int[] way : ways) {
            int sum = 0;
            for (int p = 0; p < n; p++) {
                sum += get(roomValues, p, way[p]);
            }
            if (sum > most) {
                most = sum;
                gotRooms = way;
            }
        }
        findRents(most);
        return most;
    }

    private void orders(int[] order, int done, List<int[]> all) {
        if (done == n) {
            all.add(order.clone());
            return;
        }
        for (int r = 0; r < n; r++) {
            boolean free = true;
            for (int p = 0; p < done; p++) {
                free &= order[p] != r;
            }
            if (free) {
                order[done] = r;
                orders(order, done + 1, all);
            }
        }
    }

    /** Each saving is the least one and the longest of all chains of envied rooms from there on. */
    private void findRents(int most) {
        Ratio all = Ratio.of(most - totalRent);
        long[] above = new long[n];
        for (int p = 0; p < n; p++) {
            above[p] = longest(p, 1 << p);
            all = all.minus(Ratio.of(above[p]));
        }
        rents = new Ratio[n];
        for (int p = 0; p < n; p++) {
            Ratio saving = all.times(1, n).plus(Ratio.of(above[p]));
            rents[p] = Ratio.of(get(roomValues, p, gotRooms[p])).minus(saving);
        }
    }

    private long longest(int p, int seen) {
        long longest = 0;
        for (int q = 0; q < n; q++) {
            if ((seen >> q & 1) == 0) {
                long step = get(roomValues, p, gotRooms[q]) - get(roomValues, q, gotRooms[q]);
                longest = Math.max(longest, step + longest(q, seen | 1 << q));
            }
        }
        return longest;
    }

    long rent(int p, int what) {
        index(person(p) && what >= 0 && what <= 2);
        state(rents != null);
        return what == 0 ? gotRooms[p] : (what == 1 ? rents[p].above : rents[p].below).longValueExact();
    }

    void cake(int newLength) {
        argument(newLength >= 1 && newLength <= 16);
        length = newLength;
        pieces = null;
    }

    int density(int p, int k, int v) {
        argument(v >= 0 && v <= 12);
        index(person(p) && k >= 0 && k <= 15);
        return put(densities, p, k, v);
    }

    /** What the cake from 0 to a place is worth. */
    private Ratio upTo(int p, Ratio place) {
        int whole = place.floor();
        Ratio sum = place.minus(Ratio.of(whole)).times(get(densities, p, whole), 1);
        for (int k = 0; k < whole; k++) {
            sum = sum.plus(Ratio.of(get(densities, p, k)));
        }
        return sum;
    }

    private Ratio mark(int p, Ratio from, Ratio amount) {
        if (amount.above.signum() == 0) {
            return from;
        }
        Ratio aim = upTo(p, from).plus(amount);
        int k = 0;
        while (upTo(p, Ratio.of(k + 1)).compareTo(aim) < 0) {
            k++;
        }
        return Ratio.of(k).plus(aim.minus(upTo(p, Ratio.of(k))).times(1, get(densities, p, k)));
    }

    void cut(boolean halves) {
        pieces = new Ratio[n][];
        List<Integer> all = new ArrayList<>();
        for (int p = 0; p < n; p++) {
            all.add(p);
        }
        if (halves) {
            halve(all, Ratio.of(0), Ratio.of(length));
        } else {
            leastMarks(all);
        }
    }

    private void leastMarks(List<Integer> left) {
        Ratio from = Ratio.of(0);
        while (left.size() >= 2) {
            Integer getter = null;
            Ratio least = null;
            for (Integer p : left) {
                Ratio mark = mark(p, from, upTo(p, Ratio.of(length)).times(1, n));
                if (least == null || mark.compareTo(least) < 0) {
                    least = mark;
                    getter = p;
                }
            }
            pieces[getter] = new Ratio[] {from, least};
            from = least;
            left.remove(getter);
        }
        pieces[left.get(0)] = new Ratio[] {from, Ratio.of(length)};
    }

    private void halve(List<Integer> some, Ratio from, Ratio to) {
        int g = some.size();
        if (g == 1) {
            pieces[some.get(0)] = new Ratio[] {from, to};
            return;
        }
        int h = g / 2;
        Map<Integer, Ratio> marks = new HashMap<>();
        for (Integer p : some) {
            marks.put(p, mark(p, from, upTo(p, to).minus(upTo(p, from)).times(h, g)));
        }
        List<Integer> sorted = new ArrayList<>(some);
        sorted.sort((p, q) -> marks.get(p).compareTo(marks.get(q)) != 0 ? marks.get(p).compareTo(marks.get(q)) : p - q);
        Ratio greatest = marks.get(sorted.get(h - 1));
        halve(sorted.subList(0, h), from, greatest);
        halve(sorted.subList(h, g), greatest, to);
    }

    long piece(int p, int what) {
        index(person(p) && what >= 0 && what <= 3);
        state(pieces != null);
        Ratio place = pieces[p][what / 2];
        return (what % 2 == 0 ? place.above : place.below).longValueExact();
    }

    long taste(int p, int q, int what) {
        index(person(p) && person(q) && what >= 0 && what <= 1);
        state(pieces != null);
        Ratio worth = upTo(p, pieces[q][1]).minus(upTo(p, pieces[q][0]));
        return (what == 0 ? worth.above : worth.below).longValueExact();
    }
}
