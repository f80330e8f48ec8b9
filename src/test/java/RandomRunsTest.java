import java.util.Random;

/** Random runs of up to 512 calls, wrong ones among them, whose answers are those of PlainDesk. The seeds are fixed. */
final class RandomRunsTest {
    private static final int RUNS = 500;
    private static final int CALLS = 512;
    private static final Check CHECK = new Check("RandomRunsTest");

    private final Random random;
    private FairDesk desk = new FairDesk();
    private PlainDesk plain = new PlainDesk();
    private int n = 1;
    private int m = 0;
    private int greatest;

    private RandomRunsTest(long seed) {
        random = new Random(seed);
        greatest = new int[] {1, 3, 12, 1000}[(int) (seed % 4)];
    }

    public static void main(String[] args) {
        for (int seed = 0; seed < RUNS; seed++) {
            new RandomRunsTest(seed).run(seed);
        }
        CHECK.end();
    }

    private void run(int seed) {
        begin();
        int call = 0;
        while (call < CALLS) {
            int kind = random.nextInt(100);
            if (kind == 0) {
                begin();
            } else if (kind < 4) {
                roomsAnew(seed);
            } else {
                both(seed, random.nextInt(20));
            }
            call++;
        }
    }

    private void begin() {
        n = 1 + random.nextInt(6);
        m = random.nextInt(new int[] {13, 13, 9, 7, 6, 6}[n - 1]);
        desk.people(n);
        plain.people(n);
        desk.items(m);
        plain.items(m);
        int length = 1 + random.nextInt(16);
        desk.cake(length);
        plain.cake(length);
        for (int p = 0; p < n; p++) {
            for (int i = 0; i < m; i++) {
                int v = random.nextInt(greatest + 1);
                desk.value(p, i, v);
                plain.value(p, i, v);
            }
            for (int k = 0; k < length; k++) {
                int v = random.nextInt(Math.min(greatest, 12) + 1);
                desk.density(p, k, v);
                plain.density(p, k, v);
            }
        }
    }

    /** Values that are the total together, so that the rooms can be divided; then all that is answered of them. */
    private void roomsAnew(int seed) {
        int total = random.nextInt(random.nextBoolean() ? 7 : 100001);
        desk.total(total);
        plain.total(total);
        for (int p = 0; p < n; p++) {
            int[] row = new int[n];
            int left = total;
            for (int r = 0; r < n - 1; r++) {
                row[r] = random.nextInt(left + 1);
                left -= row[r];
            }
            row[n - 1] = left;
            int turned = random.nextInt(n);
            for (int r = 0; r < n; r++) {
                desk.room(p, r, row[(r + turned) % n]);
                plain.room(p, r, row[(r + turned) % n]);
            }
        }
        same(seed, "rooms()", () -> desk.rooms(), () -> plain.rooms());
        for (int p = 0; p < n; p++) {
            for (int what = 0; what < 3; what++) {
                int p2 = p;
                int what2 = what;
                same(seed, "rent(" + p + ", " + what + ")", () -> desk.rent(p2, what2), () -> plain.rent(p2, what2));
            }
        }
    }

    private int person() {
        return random.nextInt(40) == 0 ? random.nextInt(10) - 2 : random.nextInt(n);
    }

    private int item() {
        return m == 0 || random.nextInt(40) == 0 ? random.nextInt(16) - 2 : random.nextInt(m);
    }

    private int upTo(int most) {
        int choice = random.nextInt(80);
        return choice == 0 ? most + 1 : choice == 1 ? -1 : choice == 2 ? most : random.nextInt(Math.min(most, greatest) + 1);
    }

    private int what(int most) {
        return random.nextInt(40) == 0 ? random.nextInt(8) - 2 : random.nextInt(most + 1);
    }

    private void both(int seed, int method) {
        int p = person();
        int q = person();
        int i = item();
        boolean flag = random.nextBoolean();
        switch (method) {
            case 0: {
                int newM = random.nextInt(60) == 0 ? random.nextInt(17) - 2 : m;
                same(seed, "items(" + newM + ")", () -> { desk.items(newM); return 0; }, () -> { plain.items(newM); return 0; });
                m = newM >= 0 && newM <= 12 ? newM : m;
                break;
            }
            case 1: case 2: {
                int v = upTo(1000);
                same(seed, "value(" + p + ", " + i + ", " + v + ")", () -> desk.value(p, i, v), () -> plain.value(p, i, v));
                break;
            }
            case 3:
                same(seed, "picks(" + p + ")", () -> { desk.picks(p); return 0; }, () -> { plain.picks(p); return 0; });
                break;
            case 4: case 5:
                same(seed, "circles()", () -> desk.circles(), () -> plain.circles());
                break;
            case 6:
                if (random.nextInt(10) == 0) {
                    same(seed, "product()", () -> desk.product(), () -> plain.product());
                }
                break;
            case 7: {
                int to = random.nextInt(8) == 0 ? -1 : p;
                same(seed, "give(" + i + ", " + to + ")", () -> desk.give(i, to), () -> plain.give(i, to));
                break;
            }
            case 8: {
                same(seed, "worth(" + p + ", " + q + ")", () -> desk.worth(p, q), () -> plain.worth(p, q));
                break;
            }
            case 9: case 10:
                same(seed, "envy(" + p + ", " + q + ", " + flag + ")", () -> desk.envy(p, q, flag), () -> plain.envy(p, q, flag));
                break;
            case 11:
                if (random.nextInt(10) == 0) {
                    same(seed, "guarantee(" + p + ")", () -> desk.guarantee(p), () -> plain.guarantee(p));
                }
                break;
            case 12: {
                int v = upTo(100000);
                same(seed, "room(" + p + ", " + q + ", " + v + ")", () -> desk.room(p, q, v), () -> plain.room(p, q, v));
                break;
            }
            case 13: {
                int v = upTo(600000);
                same(seed, "total(" + v + ")", () -> desk.total(v), () -> plain.total(v));
                same(seed, "rooms()", () -> desk.rooms(), () -> plain.rooms());
                break;
            }
            case 14: {
                int what = what(2);
                same(seed, "rent(" + p + ", " + what + ")", () -> desk.rent(p, what), () -> plain.rent(p, what));
                break;
            }
            case 15: {
                int v = random.nextInt(19) - 1;
                if (random.nextInt(4) == 0) {
                    same(seed, "cake(" + v + ")", () -> { desk.cake(v); return 0; }, () -> { plain.cake(v); return 0; });
                }
                break;
            }
            case 16: {
                int k = random.nextInt(40) == 0 ? random.nextInt(20) - 2 : random.nextInt(16);
                int v = upTo(12);
                same(seed, "density(" + p + ", " + k + ", " + v + ")", () -> desk.density(p, k, v), () -> plain.density(p, k, v));
                break;
            }
            case 17:
                same(seed, "cut(" + flag + ")", () -> { desk.cut(flag); return 0; }, () -> { plain.cut(flag); return 0; });
                break;
            case 18: {
                int what = what(3);
                same(seed, "piece(" + p + ", " + what + ")", () -> desk.piece(p, what), () -> plain.piece(p, what));
                break;
            }
            default: {
                int what = what(1);
                same(seed, "taste(" + p + ", " + q + ", " + what + ")", () -> desk.taste(p, q, what), () -> plain.taste(p, q, what));
                break;
            }
        }
        allHolders(seed);
    }

    private void allHolders(int seed) {
        for (int i = 0; i < m; i++) {
            int item = i;
            same(seed, "holder(" + i + ")", () -> desk.holder(item), () -> plain.holder(item));
        }
    }

    private interface Answer {
        long get();
    }

    private static String told(Answer answer) {
        try {
            return Long.toString(answer.get());
        } catch (RuntimeException thrown) {
            return thrown.getClass().getSimpleName();
        }
    }

    private static void same(int seed, String call, Answer got, Answer due) {
        CHECK.same("run " + seed + ": " + call, told(got), told(due));
    }
}
