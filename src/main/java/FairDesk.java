/** Divides goods, rooms with their rent, and a cake among people by exact rules, and tells who envies whom. */
public final class FairDesk {
    /** Nobody; nothing. */
    public static final int NONE = -1;

    private static final int MOST_PEOPLE = 6;
    private static final int MOST_ITEMS = 12;
    private static final int MOST_VALUE = 1000;
    private static final int MOST_WAYS = 65536;
    private static final int MOST_ROOM_VALUE = 100000;
    private static final int MOST_TOTAL = 600000;
    private static final int MOST_LENGTH = 16;
    private static final int MOST_DENSITY = 12;

    private final Goods goods = new Goods();
    private final House house = new House();
    private final CakeTable cakeTable = new CakeTable();
    private int peopleCount = 1;

    public FairDesk() {
    }

    public void people(int n) throws IllegalArgumentException {
        if (!isWithin(n, 1, MOST_PEOPLE)) {
            throw new IllegalArgumentException("people are 1 to 6");
        }
        peopleCount = n;
        goods.startOver(n);
        house.startOver(n);
        cakeTable.startOver(n);
    }

    public void items(int m) throws IllegalArgumentException {
        if (!isWithin(m, 0, MOST_ITEMS)) {
            throw new IllegalArgumentException("items are 0 to 12");
        }
        goods.resize(m);
    }

    public int value(int p, int item, int v) throws IllegalArgumentException, IndexOutOfBoundsException {
        if (!isWithin(v, 0, MOST_VALUE)) {
            throw new IllegalArgumentException("an item's value is 0 to 1000");
        }
        if (!isPerson(p) || !isItem(item)) {
            throw new IndexOutOfBoundsException("no such person or item");
        }
        return goods.setValue(p, item, v);
    }

    public void picks(int first) throws IndexOutOfBoundsException {
        if (!isPerson(first)) {
            throw new IndexOutOfBoundsException("no such person");
        }
        goods.divideInTurns(first);
    }

    public int circles() {
        return goods.divideByCircles();
    }

    public long product() throws IllegalStateException {
        if (!goods.hasFewWays()) {
            throw new IllegalStateException("too many ways to give the items");
        }
        return goods.divideByProduct();
    }

    public int give(int item, int p) throws IndexOutOfBoundsException {
        if (!isItem(item) || !isPerson(p) && p != NONE) {
            throw new IndexOutOfBoundsException("no such person or item");
        }
        return goods.setHolder(item, p);
    }

    public int holder(int item) throws IndexOutOfBoundsException {
        if (!isItem(item)) {
            throw new IndexOutOfBoundsException("no such item");
        }
        return goods.holderOf(item);
    }

    public int worth(int p, int q) throws IndexOutOfBoundsException {
        if (!isPerson(p) || !isPerson(q)) {
            throw new IndexOutOfBoundsException("no such person");
        }
        return goods.worthTo(p, q);
    }

    public int envy(int p, int q, boolean drop) throws IndexOutOfBoundsException {
        if (!isPerson(p) || !isPerson(q)) {
            throw new IndexOutOfBoundsException("no such person");
        }
        return goods.envyOf(p, q, drop);
    }

    public int guarantee(int p) throws IndexOutOfBoundsException, IllegalStateException {
        if (!isPerson(p)) {
            throw new IndexOutOfBoundsException("no such person");
        }
        if (!goods.hasFewWays()) {
            throw new IllegalStateException("too many ways to put the items into bundles");
        }
        return goods.guaranteedTo(p);
    }

    public int room(int p, int r, int v) throws IllegalArgumentException, IndexOutOfBoundsException {
        if (!isWithin(v, 0, MOST_ROOM_VALUE)) {
            throw new IllegalArgumentException("a room's value is 0 to 100000");
        }
        // There are as many rooms as people.
        if (!isPerson(p) || !isPerson(r)) {
            throw new IndexOutOfBoundsException("no such person or room");
        }
        return house.setValue(p, r, v);
    }

    public int total(int total) throws IllegalArgumentException {
        if (!isWithin(total, 0, MOST_TOTAL)) {
            throw new IllegalArgumentException("a total rent is 0 to 600000");
        }
        return house.setTotal(total);
    }

    public int rooms() throws IllegalStateException {
        if (!house.valuesMakeTotal()) {
            throw new IllegalStateException("to somebody the rooms' values are not the total");
        }
        return house.divide();
    }

    public long rent(int p, int what) throws IndexOutOfBoundsException, IllegalStateException {
        if (!isPerson(p) || !isWithin(what, 0, 2)) {
            throw new IndexOutOfBoundsException("no such person or what");
        }
        if (!house.isDivided()) {
            throw new IllegalStateException("the rooms were not divided");
        }
        return what == 0 ? house.roomOf(p) : house.rentOf(p).part(what - 1);
    }

    public void cake(int length) throws IllegalArgumentException {
        if (!isWithin(length, 1, MOST_LENGTH)) {
            throw new IllegalArgumentException("a cake's length is 1 to 16");
        }
        cakeTable.setLength(length);
    }

    public int density(int p, int k, int v) throws IllegalArgumentException, IndexOutOfBoundsException {
        if (!isWithin(v, 0, MOST_DENSITY)) {
            throw new IllegalArgumentException("a density is 0 to 12");
        }
        if (!isPerson(p) || !isWithin(k, 0, MOST_LENGTH - 1)) {
            throw new IndexOutOfBoundsException("no such person or part of the cake");
        }
        return cakeTable.setDensity(p, k, v);
    }

    public void cut(boolean halves) {
        if (halves) {
            cakeTable.cutByHalves();
        } else {
            cakeTable.cutByLeastMarks();
        }
    }

    public long piece(int p, int what) throws IndexOutOfBoundsException, IllegalStateException {
        if (!isPerson(p) || !isWithin(what, 0, 3)) {
            throw new IndexOutOfBoundsException("no such person or what");
        }
        if (!cakeTable.hasPieces()) {
            throw new IllegalStateException("the cake is not cut");
        }
        return what < 2 ? cakeTable.beginOf(p).part(what) : cakeTable.endOf(p).part(what - 2);
    }

    public long taste(int p, int q, int what) throws IndexOutOfBoundsException, IllegalStateException {
        if (!isPerson(p) || !isPerson(q) || !isWithin(what, 0, 1)) {
            throw new IndexOutOfBoundsException("no such person or what");
        }
        if (!cakeTable.hasPieces()) {
            throw new IllegalStateException("the cake is not cut");
        }
        return cakeTable.tasteOf(p, q).part(what);
    }

    private boolean isPerson(int p) {
        return isWithin(p, 0, peopleCount - 1);
    }

    private boolean isItem(int item) {
        return isWithin(item, 0, goods.itemCount() - 1);
    }

    private static boolean isWithin(int number, int least, int most) {
        return least <= number && number <= most;
    }

    /** The items, what they are worth to whom, and who holds them. */
    private static final class Goods {
        // Each turn makes what people hold worth more to them, and that together is at most 6 times 12000.
        private static final int MOST_TURNS = 100000;

        private int people = 1;
        private int items = 0;
        private final int[][] values = new int[MOST_PEOPLE][MOST_ITEMS];
        private final int[] holders = new int[MOST_ITEMS];
        private final int[] enviers = new int[MOST_PEOPLE];
        private final int[] takers = new int[MOST_PEOPLE];
        private final ProductSearch productSearch = new ProductSearch();
        private final BundleSearch bundleSearch = new BundleSearch();

        Goods() {
            putAllBack();
        }

        void startOver(int n) {
            people = n;
            resize(0);
        }

        void resize(int m) {
            // Items that go lose their values now, so that they come back as new ones.
            for (int p = 0; p < MOST_PEOPLE; p++) {
                for (int item = m; item < MOST_ITEMS; item++) {
                    values[p][item] = 0;
                }
            }
            items = m;
            putAllBack();
        }

        int itemCount() {
            return items;
        }

        int setValue(int p, int item, int v) {
            int before = values[p][item];
            values[p][item] = v;
            return before;
        }

        int setHolder(int item, int p) {
            int before = holders[item];
            holders[item] = p;
            return before;
        }

        int holderOf(int item) {
            return holders[item];
        }

        int worthTo(int p, int q) {
            int sum = 0;
            for (int item = 0; item < items; item++) {
                if (holders[item] == q) {
                    sum += values[p][item];
                }
            }
            return sum;
        }

        int envyOf(int p, int q, boolean drop) {
            int others = worthTo(p, q);
            if (drop) {
                others -= dearestHeld(p, q);
            }
            return Math.max(0, others - worthTo(p, p));
        }

        /** The greatest value to p of an item that q holds. */
        private int dearestHeld(int p, int q) {
            int dearest = 0;
            for (int item = 0; item < items; item++) {
                if (holders[item] == q) {
                    dearest = Math.max(dearest, values[p][item]);
                }
            }
            return dearest;
        }

        boolean hasFewWays() {
            int ways = 1;
            // It stops before the next factor could overflow.
            for (int item = 0; item < items && ways <= MOST_WAYS; item++) {
                ways *= people;
            }
            return ways <= MOST_WAYS;
        }

        void divideInTurns(int first) {
            putAllBack();
            int p = first;
            for (int turn = 0; turn < items; turn++) {
                int item = dearestLeft(p);
                if (item != NONE) {
                    holders[item] = p;
                }
                p = p + 1 < people ? p + 1 : 0;
            }
        }

        private int dearestLeft(int p) {
            int dearest = NONE;
            for (int item = 0; item < items; item++) {
                if (holders[item] == NONE && (dearest == NONE || values[p][item] > values[p][dearest])) {
                    dearest = item;
                }
            }
            return dearest;
        }

        int divideByCircles() {
            putAllBack();
            int turned = 0;
            for (int item = 0; item < items; item++) {
                int p = lowestUnenvied();
                for (int turn = 0; turn < MOST_TURNS && p == NONE; turn++) {
                    turnCircle();
                    turned++;
                    p = lowestUnenvied();
                }
                holders[item] = p;
            }
            return turned;
        }

        /** The lowest person whom nobody envies; the lowest envier of each person is noted for turnCircle. */
        private int lowestUnenvied() {
            int lowest = NONE;
            for (int q = people - 1; q >= 0; q--) {
                enviers[q] = lowestEnvier(q);
                if (enviers[q] == NONE) {
                    lowest = q;
                }
            }
            return lowest;
        }

        private int lowestEnvier(int q) {
            for (int p = 0; p < people; p++) {
                if (envyOf(p, q, false) > 0) {
                    return p;
                }
            }
            return NONE;
        }

        /** Everybody is envied when this is called, so each person has an envier to go to. */
        private void turnCircle() {
            int stand = 0;
            // After as many steps as there are people one has come to somebody twice, and so stands on the circle.
            for (int step = 0; step < people && stand != NONE; step++) {
                stand = enviers[stand];
            }
            for (int p = 0; p < MOST_PEOPLE; p++) {
                takers[p] = NONE;
            }
            for (int step = 0; step < people && stand != NONE && takers[stand] == NONE; step++) {
                takers[stand] = enviers[stand];
                stand = enviers[stand];
            }
            for (int item = 0; item < items; item++) {
                int before = holders[item];
                if (before != NONE && takers[before] != NONE) {
                    holders[item] = takers[before];
                }
            }
        }

        long divideByProduct() {
            return productSearch.run(values, people, items, holders);
        }

        int guaranteedTo(int p) {
            return bundleSearch.run(values[p], people, items);
        }

        private void putAllBack() {
            for (int item = 0; item < MOST_ITEMS; item++) {
                holders[item] = NONE;
            }
        }
    }

    /** Looks for the way to give the items that is best BY PRODUCT. */
    private static final class ProductSearch {
        // Six people share six items of 1000 at most by product; fewer people never come as far with theirs.
        private static final long MOST_PRODUCT = 1000000000000000000L;

        private int people;
        private int items;
        private int[][] values;
        private int[] bestHolders;
        private int bestCount;
        private long bestProduct;
        private final int[] holders = new int[MOST_ITEMS];
        private final int[] held = new int[MOST_PEOPLE];
        private final int[][] rest = new int[MOST_PEOPLE][MOST_ITEMS + 1];

        /** Answers the product, and writes who gets which item into holdersToFill. */
        long run(int[][] itemValues, int n, int m, int[] holdersToFill) {
            people = n;
            items = m;
            values = itemValues;
            bestHolders = holdersToFill;
            bestCount = NONE;
            bestProduct = 0;
            for (int p = 0; p < people; p++) {
                held[p] = 0;
                rest[p][items] = 0;
                for (int item = items - 1; item >= 0; item--) {
                    rest[p][item] = rest[p][item + 1] + values[p][item];
                }
            }
            tryItem(0);
            return bestProduct;
        }

        /**
         * Tries all holders of the items from this one on. The ways come in the order that settles
         * ties, so that only a better one takes the best one's place.
         */
        private void tryItem(int item) {
            // No way from here on is better than if everybody got all that is left; at the end nothing is left.
            int count = 0;
            long product = 1;
            for (int p = 0; p < people; p++) {
                int hope = held[p] + rest[p][item];
                if (hope > 0) {
                    count++;
                    product = timesAtMost(product, hope);
                }
            }
            if (count < bestCount || count == bestCount && product <= bestProduct) {
                return;
            }
            if (item >= items) {
                bestCount = count;
                bestProduct = product;
                System.arraycopy(holders, 0, bestHolders, 0, items);
                return;
            }
            for (int p = 0; p < people; p++) {
                holders[item] = p;
                held[p] += values[p][item];
                tryItem(item + 1);
                held[p] -= values[p][item];
            }
        }

        /** What is hoped for may be beyond a long; what people really hold never comes to more than the most. */
        private static long timesAtMost(long product, int factor) {
            return factor > 0 && product > MOST_PRODUCT / factor ? MOST_PRODUCT : product * factor;
        }
    }

    /** Looks for the bundles of which the least one is worth most to one person. */
    private static final class BundleSearch {
        private int bundles;
        private int items;
        private int[] values;
        private int best;
        private final int[] sums = new int[MOST_PEOPLE];

        int run(int[] itemValues, int n, int m) {
            bundles = n;
            items = m;
            values = itemValues;
            best = 0;
            int all = 0;
            for (int b = 0; b < bundles; b++) {
                sums[b] = 0;
            }
            for (int item = 0; item < items; item++) {
                all += values[item];
            }
            tryItem(0, 0, all);
            return best;
        }

        /** Tries all bundles for the items from this one on, which are worth rest together. */
        private void tryItem(int item, int begun, int rest) {
            int least = sums[0];
            for (int b = 1; b < bundles; b++) {
                least = Math.min(least, sums[b]);
            }
            // Even if the least bundle got all that is left it would not be better.
            if (least + rest <= best) {
                return;
            }
            if (item >= items) {
                best = least;
                return;
            }
            // Bundles that are still empty are all alike: one of them is enough to try.
            int open = Math.min(begun + 1, bundles);
            for (int b = 0; b < open; b++) {
                sums[b] += values[item];
                tryItem(item + 1, b == begun ? begun + 1 : begun, rest - values[item]);
                sums[b] -= values[item];
            }
        }
    }

    /** The rooms, what they are worth to whom, and who got which for what rent. */
    private static final class House {
        private int people = 1;
        private int totalRent = 0;
        private boolean divided = false;
        private int bestSum;
        private final int[][] values = new int[MOST_PEOPLE][MOST_PEOPLE];
        private final int[] roomsTried = new int[MOST_PEOPLE];
        private final int[] roomsGot = new int[MOST_PEOPLE];
        private final int[] leads = new int[MOST_PEOPLE];
        private final Fraction[] rents = new Fraction[MOST_PEOPLE];

        House() {
            for (int p = 0; p < MOST_PEOPLE; p++) {
                rents[p] = new Fraction();
            }
        }

        void startOver(int n) {
            people = n;
            totalRent = 0;
            divided = false;
            for (int p = 0; p < MOST_PEOPLE; p++) {
                for (int r = 0; r < MOST_PEOPLE; r++) {
                    values[p][r] = 0;
                }
            }
        }

        int setValue(int p, int r, int v) {
            int before = values[p][r];
            values[p][r] = v;
            return before;
        }

        int setTotal(int newTotal) {
            int before = totalRent;
            totalRent = newTotal;
            return before;
        }

        boolean valuesMakeTotal() {
            for (int p = 0; p < people; p++) {
                int sum = 0;
                for (int r = 0; r < people; r++) {
                    sum += values[p][r];
                }
                if (sum != totalRent) {
                    return false;
                }
            }
            return true;
        }

        boolean isDivided() {
            return divided;
        }

        int roomOf(int p) {
            return roomsGot[p];
        }

        Fraction rentOf(int p) {
            return rents[p];
        }

        int divide() {
            bestSum = NONE;
            tryRooms(0, 0, 0);
            findLeads();
            setRents();
            divided = true;
            return bestSum;
        }

        /**
         * Tries all rooms for the people from p on; a bit of taken stands for each room that is gone.
         * The ways come in the order that settles ties, so that only a better one takes the best one's place.
         */
        private void tryRooms(int p, int taken, int sum) {
            if (p >= people) {
                if (sum > bestSum) {
                    bestSum = sum;
                    System.arraycopy(roomsTried, 0, roomsGot, 0, people);
                }
                return;
            }
            for (int r = 0; r < people; r++) {
                if ((taken >> r & 1) == 0) {
                    roomsTried[p] = r;
                    tryRooms(p + 1, taken | 1 << r, sum + values[p][r]);
                }
            }
        }

        /**
         * How much more than the least saving each person must save at least, so that nobody envies: p must
         * save what q saves and, on top, by how much more q's room is worth to p than to q. A chain of these
         * never gains by coming back to somebody, since the rooms are divided best: so it has fewer steps
         * than there are people.
         */
        private void findLeads() {
            for (int p = 0; p < people; p++) {
                leads[p] = 0;
            }
            for (int step = 1; step < people; step++) {
                for (int p = 0; p < people; p++) {
                    for (int q = 0; q < people; q++) {
                        int r = roomsGot[q];
                        leads[p] = Math.max(leads[p], leads[q] + values[p][r] - values[q][r]);
                    }
                }
            }
        }

        /**
         * Of what all save together the leads are taken first, and each gets an equal part of the rest:
         * to give one more would leave another less than the least saving.
         */
        private void setRents() {
            long leastSavings = bestSum - totalRent;
            for (int p = 0; p < people; p++) {
                leastSavings -= leads[p];
            }
            for (int p = 0; p < people; p++) {
                long beforeLeast = values[p][roomsGot[p]] - leads[p];
                rents[p].become(beforeLeast * people - leastSavings, people);
            }
        }
    }

    /** The cake, how dense it is to whom, and who got which piece. */
    private static final class CakeTable {
        // Six people are three, then two or one, then one.
        private static final int MOST_HALVINGS = 3;

        private int people = 1;
        private int length = 1;
        private boolean wasCut = false;
        private final int[][] densities = new int[MOST_PEOPLE][MOST_LENGTH];
        private final Fraction[] begins = new Fraction[MOST_PEOPLE];
        private final Fraction[] ends = new Fraction[MOST_PEOPLE];
        private final Fraction[] marks = new Fraction[MOST_PEOPLE];
        private final boolean[] served = new boolean[MOST_PEOPLE];
        private final int[] order = new int[MOST_PEOPLE];
        private final Fraction here = new Fraction();
        private final Fraction amount = new Fraction();
        private final Fraction tasted = new Fraction();

        CakeTable() {
            for (int p = 0; p < MOST_PEOPLE; p++) {
                begins[p] = new Fraction();
                ends[p] = new Fraction();
                marks[p] = new Fraction();
            }
        }

        void startOver(int n) {
            people = n;
            setLength(1);
            for (int p = 0; p < MOST_PEOPLE; p++) {
                for (int k = 0; k < MOST_LENGTH; k++) {
                    densities[p][k] = 0;
                }
            }
        }

        void setLength(int newLength) {
            length = newLength;
            wasCut = false;
        }

        int setDensity(int p, int k, int v) {
            int before = densities[p][k];
            densities[p][k] = v;
            return before;
        }

        boolean hasPieces() {
            return wasCut;
        }

        Fraction beginOf(int p) {
            return begins[p];
        }

        Fraction endOf(int p) {
            return ends[p];
        }

        Fraction tasteOf(int p, int q) {
            weigh(p, begins[q], ends[q], tasted);
            return tasted;
        }

        void cutByLeastMarks() {
            for (int p = 0; p < people; p++) {
                served[p] = false;
            }
            here.become(0, 1);
            for (int left = people; left >= 2; left--) {
                markNthParts();
                serveUpToMark(leastMarked());
            }
            // The rest goes to the last one as if they had marked the cake's end.
            for (int p = 0; p < people; p++) {
                marks[p].become(length, 1);
            }
            serveUpToMark(leastMarked());
            wasCut = true;
        }

        private void markNthParts() {
            for (int p = 0; p < people; p++) {
                if (!served[p]) {
                    int whole = 0;
                    for (int k = 0; k < length; k++) {
                        whole += densities[p][k];
                    }
                    amount.become(whole, people);
                    mark(p, here);
                }
            }
        }

        private int leastMarked() {
            int least = NONE;
            for (int p = 0; p < people; p++) {
                if (!served[p] && (least == NONE || marks[p].isLessThan(marks[least]))) {
                    least = p;
                }
            }
            return least;
        }

        private void serveUpToMark(int p) {
            if (p != NONE) {
                begins[p].becomeLike(here);
                ends[p].becomeLike(marks[p]);
                here.becomeLike(marks[p]);
                served[p] = true;
            }
        }

        void cutByHalves() {
            for (int p = 0; p < people; p++) {
                order[p] = p;
                begins[p].become(0, 1);
                ends[p].become(length, 1);
            }
            halve(0, people, 0);
            wasCut = true;
        }

        /** Those from the one place to the other in the order share a stretch, which each has as begin and end. */
        private void halve(int from, int to, int depth) {
            int group = to - from;
            if (group < 2 || depth >= MOST_HALVINGS) {
                return;
            }
            int half = group / 2;
            for (int i = from; i < to; i++) {
                int p = order[i];
                weigh(p, begins[p], ends[p], amount);
                amount.scale(half, group);
                mark(p, begins[p]);
            }
            sortByMarks(from, to);
            int middle = from + half;
            Fraction greatest = marks[order[middle - 1]];
            for (int i = from; i < middle; i++) {
                ends[order[i]].becomeLike(greatest);
            }
            for (int i = middle; i < to; i++) {
                begins[order[i]].becomeLike(greatest);
            }
            halve(from, middle, depth + 1);
            halve(middle, to, depth + 1);
        }

        private void sortByMarks(int from, int to) {
            for (int i = from + 1; i < to; i++) {
                for (int j = i; j > from && isMarkedBefore(order[j], order[j - 1]); j--) {
                    int p = order[j];
                    order[j] = order[j - 1];
                    order[j - 1] = p;
                }
            }
        }

        private boolean isMarkedBefore(int p, int q) {
            if (marks[p].isLessThan(marks[q])) {
                return true;
            }
            return p < q && !marks[q].isLessThan(marks[p]);
        }

        /** Sets result to what a stretch is worth to p. */
        private void weigh(int p, Fraction from, Fraction to, Fraction result) {
            long unit = from.commonBottom(to);
            long begin = from.countOver(unit);
            long end = to.countOver(unit);
            long sum = 0;
            for (int k = 0; k < length; k++) {
                long overlap = Math.min(end, (k + 1) * unit) - Math.max(begin, k * unit);
                if (overlap > 0) {
                    sum += overlap * densities[p][k];
                }
            }
            result.become(sum, unit);
        }

        /** Sets p's mark to that of the amount from a place on. */
        private void mark(int p, Fraction from) {
            marks[p].becomeLike(from);
            long unit = from.commonBottom(amount);
            long begin = from.countOver(unit);
            long need = amount.countOver(unit);
            for (int k = 0; k < length && need > 0; k++) {
                long place = Math.max(begin, k * unit);
                int dense = densities[p][k];
                long gain = Math.max(0, (k + 1) * unit - place) * dense;
                if (gain >= need) {
                    marks[p].become(place * dense + need, unit * dense);
                }
                need -= gain;
            }
        }
    }

    /** A fraction in lowest terms that can be given another value. */
    private static final class Fraction {
        private long top = 0;
        private long bottom = 1;

        /** The new bottom is above 0, but the two need not be in lowest terms. */
        void become(long newTop, long newBottom) {
            long divisor = greatestDivisor(Math.abs(newTop), newBottom);
            top = newTop / divisor;
            bottom = newBottom / divisor;
        }

        /** Multiplies it by one number over another, which is above 0. */
        void scale(long by, long over) {
            become(top * by, bottom * over);
        }

        void becomeLike(Fraction other) {
            top = other.top;
            bottom = other.bottom;
        }

        /** What is above (0) or below (1) the line. */
        long part(int which) {
            return which == 0 ? top : bottom;
        }

        boolean isLessThan(Fraction other) {
            return top * other.bottom < other.top * bottom;
        }

        long commonBottom(Fraction other) {
            return bottom / greatestDivisor(bottom, other.bottom) * other.bottom;
        }

        /** What stands above the line when a multiple of the bottom stands below it. */
        long countOver(long multiple) {
            return top * (multiple / bottom);
        }

        private static long greatestDivisor(long a, long b) {
            // Each two rounds halve the numbers at least, so a long is through long before the bound.
            for (int round = 0; round < 200 && b != 0; round++) {
                long rest = a % b;
                a = b;
                b = rest;
            }
            return a == 0 ? 1 : a;
        }
    }
}
